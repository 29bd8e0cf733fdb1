/-! ONE INSTRUCTION OF THE ABSTRACT MACHINE IS ONE OF THE REAL ONE -/
def am_il : Instr → Nat
  | .bipush _ => 2
  | .ldc _ => 2
  | .iload _ => 2
  | .lload _ => 2
  | .aload _ => 2
  | .istore _ => 2
  | .lstore _ => 2
  | .astore _ => 2
  | .sipush _ => 3
  | .ldc_w _ => 3
  | .ldc2_w _ => 3
  | .iinc _ _ => 3
  | .goto _ => 3
  | .ifCond _ _ => 3
  | .if_icmp _ _ => 3
  | .getfield _ => 3
  | .putfield _ => 3
  | .getstatic _ => 3
  | .invokevirtual _ => 3
  | .invokestatic _ => 3
  | _ => 1
/-- places in the locals are there, jumps go where they say -/
def am_io (nL pc : Nat) (tg : List Nat) : Instr → Bool
  | .istore n => decide (n < nL)
  | .astore n => decide (n < nL)
  | .lstore n => decide (n + 1 < nL)
  | .istore_n n => decide ((n : Nat) < nL)
  | .astore_n n => decide ((n : Nat) < nL)
  | .lstore_n n => decide ((n : Nat) + 1 < nL)
  | .iinc n _ => decide (n < nL)
  | .goto off => decide ((pc : Int) + off = (am_hd tg : Int))
  | .ifCond _ off => decide ((pc : Int) + off = (am_hd tg : Int))
  | .if_icmp _ off => decide ((pc : Int) + off = (am_hd tg : Int))
  | .tableswitch d lo hi offs => decide ((pc : Int) + d = (am_hd tg : Int) ∧ hi + 1 = lo + (tg.tail.length : Int) ∧ (-2147483648 : Int) ≤ lo ∧ hi < 2147483648 ∧ offs.toList.map (fun off => (pc : Int) + off) = tg.tail.map (fun (t : Nat) => (t : Int)))
  | _ => true
def am_isSw : Instr → Bool
  | .tableswitch _ _ _ _ => true
  | _ => false
def am_ok (cc : ByteArray) (nL : Nat) (x : AC) : Bool := decide (decode cc x.1 = .ok (x.2.1, x.2.2.1 - x.1)) && (am_isSw x.2.1 || decide (x.2.2.1 = x.1 + am_il x.2.1)) && am_io nL x.1 x.2.2.2 x.2.1
/-- what a call answers, in one form -/
def am_app (F : AF) (as : List AV) (h : HP) : Option (Option AV × HP) := match F with
  | .inl f => (f as h).map (fun q => (some (.inl q.1), q.2))
  | .inr (.inl f) => (f as h).map (fun q => (none, q))
  | .inr (.inr (.inl f)) => (f as h).map (fun q => (some (.inr (.inl q.1)), q.2))
  | .inr (.inr (.inr f)) => (f as h).map (fun q => (some (.inr (.inr (.inl (16, q.1)))), q.2))
theorem am_call_app {ρ : Type} {F : AF} {as : List AV} {h : HP} {k : List AV → HP → Option ρ} {r : ρ} (e : am_call F as h k = some r) : ∃ (v : Option AV) (h' : HP), am_app F as h = some (v, h') ∧ k v.toList h' = some r := by
  rcases F with f | f | f | f
  · obtain ⟨q, h1, h2⟩ := Option.bind_eq_some_iff.mp (show (f as h).bind (fun q => k [.inl q.1] q.2) = some r from e)
    exact ⟨some (.inl q.1), q.2, by show (f as h).map _ = _; rw [h1]; rfl, h2⟩
  · obtain ⟨q, h1, h2⟩ := Option.bind_eq_some_iff.mp (show (f as h).bind (fun q => k [] q) = some r from e)
    exact ⟨none, q, by show (f as h).map _ = _; rw [h1]; rfl, h2⟩
  · obtain ⟨q, h1, h2⟩ := Option.bind_eq_some_iff.mp (show (f as h).bind (fun q => k [.inr (.inl q.1)] q.2) = some r from e)
    exact ⟨some (.inr (.inl q.1)), q.2, by show (f as h).map _ = _; rw [h1]; rfl, h2⟩
  · obtain ⟨q, h1, h2⟩ := Option.bind_eq_some_iff.mp (show (f as h).bind (fun q => k [.inr (.inr (.inl (16, q.1)))] q.2) = some r from e)
    exact ⟨some (.inr (.inr (.inl (16, q.1)))), q.2, by show (f as h).map _ = _; rw [h1]; rfl, h2⟩
theorem am_take_spec : ∀ (n : Nat) (acc st as rest : List AV), am_take n acc st = some (as, rest) → ∃ xs : List AV, xs.length = n ∧ as = xs ++ acc ∧ st = xs.reverse ++ rest
  | 0, acc, st, as, rest, h => by
    cases h
    exact ⟨[], rfl, rfl, rfl⟩
  | n + 1, acc, [], as, rest, h => by cases h
  | n + 1, acc, v :: st, as, rest, h => by
    obtain ⟨xs, h1, h2, h3⟩ := am_take_spec n (v :: acc) st as rest h
    exact ⟨xs ++ [v], by simp [h1], by simp [h2], by simp [h3]⟩
theorem am_ix_some {i : Int32} {n k : Nat} (h : am_ix i n = some k) : vp_in i n ∧ k = i.toNatClampNeg := by
  unfold am_ix at h
  split at h
  · cases h
  · rename_i hn
    exact ⟨hn, (Option.some.inj h).symm⟩
theorem am_fl_rf : ∀ c, c < 8 → ∀ j, j < am_cnt c → ∀ k, k < (am_fl c).length → am_ft c k = 3 → (am_rf c j k).2 < am_cnt (am_rf c j k).1 := by decide +kernel
theorem am_ar_rf : ∀ c, c < 11 → 8 ≤ c → ∀ j, j < am_cnt c → ∀ k, k < am_len c j → (am_rf c j k).2 < am_cnt (am_rf c j k).1 := by decide +kernel
/-- what a field of the pool must be -/
def am_fok (own : String) (Ts : List Cond) (x : Nat × Nat × Nat) : Prop :=
  (x.2.1 < 8 ∧ x.2.2 < (am_fl x.2.1).length ∧ (∃ (C : String) (T : u_T) (ty0 : Nat → FieldType), vwCl[x.2.1]? = some (C, T, (am_fl x.2.1).length) ∧ (∀ w ∈ u_ws C T (am_fl x.2.1).length, w ∈ Ts) ∧ (∀ k, k < (am_fl x.2.1).length → parseFieldDescriptor (T k).2.2.1 = some (ty0 k)) ∧ (∀ a, a < (am_fl x.2.1).length → ∀ b, b < (am_fl x.2.1).length → a ≠ b → (T a).2.1 ≠ (T b).2.1) ∧
      (T x.2.2).1 = C ∧ Cond.fieldLink own x.1 C (T x.2.2).2.1 (T x.2.2).2.2.1 ∈ Ts ∧
      (am_ft x.2.1 x.2.2 = 0 → ty0 x.2.2 = .int ∧ (T x.2.2).2.2.2 = false) ∧ (am_ft x.2.1 x.2.2 = 1 → ty0 x.2.2 = .boolean ∧ (T x.2.2).2.2.2 = false) ∧ (am_ft x.2.1 x.2.2 = 2 → ty0 x.2.2 = .long ∧ (T x.2.2).2.2.2 = false))) ∨
  (x.2.1 = 16 ∧ ((x.2.2 = 0 ∧ Cond.fieldLink own x.1 "java/lang/String" "value" "[B" ∈ Ts) ∨ (x.2.2 = 1 ∧ Cond.fieldLink own x.1 "java/lang/String" "coder" "B" ∈ Ts)))
def am_kok (own : String) (Ts : List Cond) (x : Nat × AV) : Prop := match x.2 with
  | .inl v => Cond.constant own x.1 v ∈ Ts
  | .inr (.inl v) => Cond.constantLong own x.1 v ∈ Ts
  | .inr (.inr (.inl q)) => q.1 = 16 ∧ q.2 < 12 ∧ own = RX5 ∧ x.1 = am_six q.2
  | .inr (.inr (.inr _)) => False
def am_sok (own : String) (Ts : List Cond) (x : Nat × AV) : Prop := match x.2 with
  | .inl v => v = 1 ∧ Cond.fieldLink own x.1 "java/lang/String" "COMPACT_STRINGS" "Z" ∈ Ts
  | .inr (.inr (.inr _)) => Cond.fieldLink own x.1 "jdk/internal/util/Preconditions" "SIOOBE_FORMATTER" "Ljava/util/function/BiFunction;" ∈ Ts
  | _ => False
def am_aok (own : String) (Ts : List Cond) (R : Room) (x : Nat × Unit) : Prop := Cond.methodLink own x.1 arraycopyName ∈ Ts ∧ Cond.native arraycopyName ∈ Ts ∧ Cond.static arraycopyName ∈ Ts ∧ Cond.initialized "java/lang/System" ∈ Ts ∧ 1 ≤ R.frames ∧ nativeFrameWords "java/lang/System" "arraycopy" 5 + 11 ≤ R.locals
theorem am_sw_inv {ρ : Type} {x : Int32} {k : Nat → Option ρ} {d : Nat} {r : ρ} : ∀ (ts : List Nat) (lo : Int), (-2147483648 : Int) ≤ lo → lo + ts.length ≤ 2147483648 → am_sw x k d lo ts = some r →
    ((x.toInt < lo ∨ lo + ts.length ≤ x.toInt) ∧ k d = some r) ∨ ∃ (i t : Nat), ts[i]? = some t ∧ x.toInt = lo + i ∧ k t = some r
  | [], lo, h1, h2, h => Or.inl ⟨by simp; omega, h⟩
  | t :: ts, lo, h1, h2, h => by
    simp only [List.length_cons] at h2 ⊢
    unfold am_sw at h
    split at h
    · rename_i e
      refine Or.inr ⟨0, t, rfl, ?_, h⟩
      rw [e, Int32.toInt_ofInt_of_le (by omega) (by omega)]
      simp
    · rename_i e
      have hne : x.toInt ≠ lo := fun q => e (by rw [← q, Int32.ofInt_toInt])
      rcases am_sw_inv ts (lo + 1) (by omega) (by omega) h with ⟨q, h3⟩ | ⟨i, t', h3, h4, h5⟩
      · exact Or.inl ⟨by omega, h3⟩
      · exact Or.inr ⟨i + 1, t', h3, by rw [h4]; simp; omega, h5⟩
theorem am_bit {x : Int32} (h : x &&& 1 = x) : fits .boolean (.int x) = true := by
  have h1 : x.toBitVec &&& 1#32 = x.toBitVec := congrArg Int32.toBitVec h
  have h2 : x.toBitVec = 0#32 ∨ x.toBitVec = 1#32 := by
    have h3 := congrArg BitVec.toNat h1
    rw [BitVec.toNat_and] at h3
    have h4 : x.toBitVec.toNat &&& 1 = x.toBitVec.toNat % 2 := Nat.and_one_is_mod _
    have h5 : (1#32).toNat = 1 := rfl
    rw [h5, h4] at h3
    have h6 : x.toBitVec.toNat = 0 ∨ x.toBitVec.toNat = 1 := by omega
    rcases h6 with h6 | h6
    · exact Or.inl (BitVec.eq_of_toNat_eq h6)
    · exact Or.inr (BitVec.eq_of_toNat_eq h6)
  rcases h2 with h2 | h2
  · have : x = 0 := Int32.toBitVec_inj.mp h2
    rw [this]
    rfl
  · have : x = 1 := Int32.toBitVec_inj.mp h2
    rw [this]
    rfl
theorem am_up_rI (h : HP) (c j k : Nat) (x : Int32) : (fun k' => h_rI (h_wI h c j k x) c j k') = upd (fun k' => h_rI h c j k') k x := by
  funext k'
  rw [h_rI_wI]
  unfold upd
  by_cases e : k' = k
  · rw [if_pos ⟨rfl, rfl, e⟩, if_pos e]
  · rw [if_neg (fun q => e q.2.2), if_neg e]
theorem am_up_rJ (h : HP) (c j k : Nat) (x : Int64) : (fun k' => h_rJ (h_wJ h c j k x) c j k') = vp_updL (fun k' => h_rJ h c j k') k x := by
  funext k'
  rw [h_rJ_wJ]
  unfold vp_updL
  by_cases e : k' = k
  · rw [if_pos ⟨rfl, rfl, e⟩, if_pos e]
  · rw [if_neg (fun q => e q.2.2), if_neg e]
theorem am_up_cellI11 (G : AG) (h : HP) (j k : Nat) (x : Int32) : am_cell G (h_wI h 11 j k x) 11 j = .inl (G.2.1 11, am_len 11 j, .inl (upd (fun k => h_rI h 11 j k) k x)) := by
  rw [← am_up_rI]; rfl
theorem am_up_cellI13 (G : AG) (h : HP) (j k : Nat) (x : Int32) : am_cell G (h_wI h 13 j k x) 13 j = .inl (G.2.1 11, am_len 13 j, .inl (upd (fun k => h_rI h 13 j k) k x)) := by
  rw [← am_up_rI]; rfl
theorem am_up_cellJ12 (G : AG) (h : HP) (j k : Nat) (x : Int64) : am_cell G (h_wJ h 12 j k x) 12 j = .inl (G.2.1 12, am_len 12 j, .inr (.inl (vp_updL (fun k => h_rJ h 12 j k) k x))) := by
  rw [← am_up_rJ]; rfl
theorem am_up_cellJ14 (G : AG) (h : HP) (j k : Nat) (x : Int64) : am_cell G (h_wJ h 14 j k x) 14 j = .inl (G.2.1 12, am_len 14 j, .inr (.inl (vp_updL (fun k => h_rJ h 14 j k) k x))) := by
  rw [← am_up_rJ]; rfl
theorem am_up_cp (G : AG) (h : HP) (j1 j2 sp dp n : Nat) : am_cell G (h_cp h j1 j2 sp dp n) 12 j2 = .inl (G.2.1 12, am_len 12 j2, .inr (.inl (va_cpy (fun k => h_rJ h 12 j1 k) (fun k => h_rJ h 12 j2 k) sp dp n))) := by
  have e : (fun k => h_rJ (h_cp h j1 j2 sp dp n) 12 j2 k) = va_cpy (fun k => h_rJ h 12 j1 k) (fun k => h_rJ h 12 j2 k) sp dp n := by
    funext k
    rw [h_rJ_cp, if_pos ⟨rfl, rfl⟩]
  rw [← e]; rfl
section AMS
variable {p : Program} {l : Launch} {e : Env} {R : Room} {s : State} {m : MethodId} {args : Array Value} {below : List Frame} {meth : Method} {c : Code} {cells slots : Nat}
def am_W (p : Program) (l : Launch) (e : Env) (R : Room) (s : State) (m : MethodId) (args : Array Value) (below : List Frame) (meth : Method) (c : Code) (cells slots : Nat) (G : AG) (nL : Nat) (Q : State → Prop) (pc : Nat) (L st : List AV) (h : HP) : Prop :=
  ∀ (H : Heap) (locs : List Loc) (ls : Array Slot), va_P G.1 vwCl (am_w G h) H → va_S (am_reg G) s.heap H locs → am_LR G nL ls L → (∀ v ∈ L, am_wv v) → (∀ v ∈ st, am_wv v) →
    W p l e R s m args below meth c H locs cells slots Q (F0 m pc ls (st.map (am_tr G)))
/-- a call that is sound: instruction ins, n values off the stack, F what it answers -/
def am_C (p : Program) (l : Launch) (e : Env) (R : Room) (s : State) (m : MethodId) (args : Array Value) (below : List Frame) (meth : Method) (c : Code) (cells slots : Nat) (G : AG) (nL : Nat) (cc : ByteArray) (ins : Instr) (n : Nat) (F : AF) : Prop :=
  ∀ (as : List AV) (h h' : HP) (r : Option AV), am_app F as h = some (r, h') → as.length = n → (∀ v ∈ as, am_wv v) → (∀ v, r = some v → am_wv v) ∧
    ∀ (pc : Nat) (rest : List AV) (H : Heap) (locs : List Loc) (ls : Array Slot), decode cc pc = .ok (ins, 3) → ls.size = nL → am_sz rest ≤ 8 → va_P G.1 vwCl (am_w G h) H → va_S (am_reg G) s.heap H locs →
      va_Run p l e R s m args below meth c H locs cells slots 0 0 (F0 m pc ls ((as.map (am_tr G)).reverse ++ rest.map (am_tr G))) (rest.map (am_tr G)) (fun st oc t => oc = .returned (r.map (am_tr G)) ∧ va_P G.1 vwCl (am_w G h') t.heap ∧ va_F (am_reg G) st t) (am_reg G)
/-- a return that is sound -/
def am_Rt {ρ : Type} (p : Program) (l : Launch) (e : Env) (R : Room) (s : State) (m : MethodId) (args : Array Value) (below : List Frame) (meth : Method) (c : Code) (cells slots : Nat) (G : AG) (cc : ByteArray) (Q : ρ → State → Prop) (ins : Instr) (ret : AV → HP → Option ρ) : Prop :=
  ∀ (v : AV) (h : HP) (r : ρ) (pc : Nat) (ls : Array Slot) (H : Heap) (locs : List Loc), ret v h = some r → am_wv v → decode cc pc = .ok (ins, 1) → va_P G.1 vwCl (am_w G h) H → va_S (am_reg G) s.heap H locs → W p l e R s m args below meth c H locs cells slots (Q r) (F0 m pc ls (match v with
    | .inr (.inr (.inr _)) => []
    | v => [am_tr G v]))
def am_rt {ρ : Type} (Rr : AR ρ) : AV → HP → Option ρ
  | .inl v, h => Rr.1 v h
  | .inr (.inl v), h => Rr.2.2.1 v h
  | .inr (.inr (.inl v)), h => Rr.2.2.2 v h
  | .inr (.inr (.inr _)), h => Rr.2.1 h
/-- all that a method's walk stands on -/
def am_X {ρ : Type} (p : Program) (l : Launch) (e : Env) (R : Room) (s : State) (m : MethodId) (args : Array Value) (below : List Frame) (meth : Method) (c : Code) (cells slots : Nat) (G : AG) (nL : Nat) (cc : ByteArray) (own : String) (Ts : List Cond) (P : AP) (Rr : AR ρ) (Q : ρ → State → Prop) : Prop :=
  p.tables.exec = Jvm.exec ∧ c.code = cc ∧ c.maxLocals = nL ∧ s.vm.findClass own = some m.cls ∧ (∀ w ∈ Ts, w.before args s = true) ∧ am_E G s ∧
  (∀ x ∈ P.1, am_fok own Ts x) ∧ (∀ x ∈ P.2.1, am_kok own Ts x) ∧ (∀ x ∈ P.2.2.1, am_sok own Ts x) ∧
  (∀ ix n F, am_get P.2.2.2.1 ix = some (n, F) → am_C p l e R s m args below meth c cells slots G nL cc (.invokevirtual ix) n F) ∧
  (∀ ix n F, am_get P.2.2.2.2.1 ix = some (n, F) → am_C p l e R s m args below meth c cells slots G nL cc (.invokestatic ix) n F) ∧
  (∀ x ∈ P.2.2.2.2.2, am_aok own Ts R x) ∧
  am_Rt p l e R s m args below meth c cells slots G cc Q .ireturn (fun v h => match v with
    | .inl x => Rr.1 x h
    | _ => none) ∧
  am_Rt p l e R s m args below meth c cells slots G cc Q .return_ (fun v h => match v with
    | .inr (.inr (.inr _)) => Rr.2.1 h
    | _ => none) ∧
  am_Rt p l e R s m args below meth c cells slots G cc Q .lreturn (fun v h => match v with
    | .inr (.inl x) => Rr.2.2.1 x h
    | _ => none) ∧
  am_Rt p l e R s m args below meth c cells slots G cc Q .areturn (fun v h => match v with
    | .inr (.inr (.inl x)) => Rr.2.2.2 x h
    | _ => none)
/-- behind a call -/
theorem am_goes {G : AG} {nL pc : Nat} {Q : State → Prop} {H : Heap} {locs : List Loc} {ls : Array Slot} {st0 : List Value} {L rest : List AV} {r : Option AV} {h' : HP}
    (hr : va_Run p l e R s m args below meth c H locs cells slots 0 0 (F0 m pc ls st0) (rest.map (am_tr G)) (fun st oc t => oc = .returned (r.map (am_tr G)) ∧ va_P G.1 vwCl (am_w G h') t.heap ∧ va_F (am_reg G) st t) (am_reg G))
    (hS : va_S (am_reg G) s.heap H locs) (hL : am_LR G nL ls L) (hwL : ∀ v ∈ L, am_wv v) (hw : ∀ v ∈ r.toList ++ rest, am_wv v) (k : am_W p l e R s m args below meth c cells slots G nL Q (pc + 3) L (r.toList ++ rest) h') : W p l e R s m args below meth c H locs cells slots Q (F0 m pc ls st0) := by
  intro T hT X
  obtain ⟨v, st₀, t, T', L', h0, X', hL', e1, e2, ⟨hv, hp, hz, hk⟩, st⟩ := hr T hT X
  rw [h0] at hz hk
  have hv2 : v = r.map (am_tr G) := by
    cases hv
    rfl
  have hS' : va_S (am_reg G) s.heap T'.heap (locs ++ L') := ⟨Nat.le_trans hS.1 (by rw [e1]; exact hz), fun q h1 h2 => by rw [e1, hk q (Nat.lt_of_lt_of_le h1 hS.1) h2]; exact hS.2.1 q h1 h2, fun q hq => by
      rcases List.mem_append.mp hq with h | h
      · exact hS.2.2 q h
      · exact hL' q h⟩
  obtain ⟨t2, a1, b1⟩ := k T'.heap (locs ++ L') ls (by rw [e1]; exact hp) hS' hL hwL hw T' rfl X'
  refine ⟨t2, st t2 ?_, b1⟩
  have e3 : v.toList ++ rest.map (am_tr G) = (r.toList ++ rest).map (am_tr G) := by
    rw [hv2]
    cases r <;> rfl
  rw [show ({ F0 m pc ls st0 with pc := (F0 m pc ls st0).pc + 3, stack := v.toList ++ rest.map (am_tr G) } : JFrame) = F0 m (pc + 3) ls ((r.toList ++ rest).map (am_tr G)) by rw [e3]]
  exact a1

set_option maxHeartbeats 4000000 in
set_option maxRecDepth 100000 in
/-- one instruction -/
theorem am_exec_ok {ρ : Type} {G : AG} {nL : Nat} {cc : ByteArray} {own : String} {Ts : List Cond} {P : AP} {Rr : AR ρ} {Q : ρ → State → Prop} (CX : am_X p l e R s m args below meth c cells slots G nL cc own Ts P Rr Q)
    {pc nx : Nat} {ins : Instr} {tg : List Nat} (hok : am_ok cc nL (pc, ins, nx, tg) = true) {go : Nat → List AV → List AV → HP → Option ρ} {r : ρ}
    (hgo : ∀ pc' L' st' h', go pc' L' st' h' = some r → am_W p l e R s m args below meth c cells slots G nL (Q r) pc' L' st' h') {L st : List AV} {h : HP}
    (hr : am_exec (G.2.2.2.2.2.1.2.2, G.2.2.2.2.2.1.2.1) P Rr ins nx tg go L st h = some r) : am_W p l e R s m args below meth c cells slots G nL (Q r) pc L st h := by
  obtain ⟨hx, hb, hml, hown, hts, hE, hFp, hKp, hSp, hVc, hSc, hAc, hRi, hRv, hRj, hRr⟩ := CX
  obtain ⟨eK, eX, eB, eT, eR, eZ, eY, ecat, einj⟩ := id hE
  have hDw : ∀ h, va_D (am_reg G) (am_w G h) := am_D G einj
  unfold am_ok at hok
  dsimp only at hok
  rw [Bool.and_eq_true, Bool.and_eq_true] at hok
  obtain ⟨⟨hd0, hil⟩, hio⟩ := hok
  have hd : decode cc pc = .ok (ins, nx - pc) := of_decide_eq_true hd0
  intro H locs ls hP hS hL hwL hwS
  cases ins with
  | iconst n =>
    have hn : nx = pc + 1 := of_decide_eq_true hil
    subst hn
    rw [Nat.add_sub_cancel_left] at hd
    simp only [am_exec] at hr
    exact lv_iconst hx hb hd rfl (hgo _ _ _ _ hr H locs ls hP hS hL hwL (List.forall_mem_cons.mpr ⟨trivial, hwS⟩))
  | bipush n =>
    have hn : nx = pc + 2 := of_decide_eq_true hil
    subst hn
    rw [Nat.add_sub_cancel_left] at hd
    simp only [am_exec] at hr
    exact lv_bipush hx hb hd rfl (hgo _ _ _ _ hr H locs ls hP hS hL hwL (List.forall_mem_cons.mpr ⟨trivial, hwS⟩))
  | sipush n =>
    have hn : nx = pc + 3 := of_decide_eq_true hil
    subst hn
    rw [Nat.add_sub_cancel_left] at hd
    simp only [am_exec] at hr
    exact lv_sipush hx hb hd rfl (hgo _ _ _ _ hr H locs ls hP hS hL hwL (List.forall_mem_cons.mpr ⟨trivial, hwS⟩))
  | lconst n =>
    have hn : nx = pc + 1 := of_decide_eq_true hil
    subst hn
    rw [Nat.add_sub_cancel_left] at hd
    simp only [am_exec] at hr
    exact lv_lconst hx hb hd rfl (hgo _ _ _ _ hr H locs ls hP hS hL hwL (List.forall_mem_cons.mpr ⟨trivial, hwS⟩))
  | ldc ix =>
    have hn : nx = pc + 2 := of_decide_eq_true hil
    subst hn
    rw [Nat.add_sub_cancel_left] at hd
    simp only [am_exec] at hr
    split at hr
    · rename_i v hv
      have hk := hKp _ (am_get_mem _ _ _ hv)
      exact lv_ldc hx hb hown (hts _ hk) hd (hgo _ _ _ _ hr H locs ls hP hS hL hwL (List.forall_mem_cons.mpr ⟨trivial, hwS⟩))
    · rename_i j hv
      obtain ⟨-, k2, k3, k4⟩ := hKp _ (am_get_mem _ _ _ hv)
      dsimp only at k2 k4
      rw [k3] at hown
      rw [k4] at hd
      exact va_ldcS hx hb hown (eR j k2) hd (hgo _ _ _ _ hr H locs ls hP hS hL hwL (List.forall_mem_cons.mpr ⟨k2, hwS⟩))
    · cases hr
  | ldc_w ix =>
    have hn : nx = pc + 3 := of_decide_eq_true hil
    subst hn
    rw [Nat.add_sub_cancel_left] at hd
    simp only [am_exec] at hr
    split at hr
    · rename_i v hv
      have hk := hKp _ (am_get_mem _ _ _ hv)
      exact lv_ldcw hx hb hown (hts _ hk) hd (hgo _ _ _ _ hr H locs ls hP hS hL hwL (List.forall_mem_cons.mpr ⟨trivial, hwS⟩))
    · cases hr
  | ldc2_w ix =>
    have hn : nx = pc + 3 := of_decide_eq_true hil
    subst hn
    rw [Nat.add_sub_cancel_left] at hd
    simp only [am_exec] at hr
    split at hr
    · rename_i v hv
      have hk := hKp _ (am_get_mem _ _ _ hv)
      exact lv_ldc2 hx hb hown (hts _ hk) hd (hgo _ _ _ _ hr H locs ls hP hS hL hwL (List.forall_mem_cons.mpr ⟨trivial, hwS⟩))
    · cases hr
  | iload n =>
    have hn : nx = pc + 2 := of_decide_eq_true hil
    subst hn
    rw [Nat.add_sub_cancel_left] at hd
    simp only [am_exec] at hr
    split at hr
    · rename_i v hv
      have hk := hL.2.2.2 _ _ hv (fun z => by cases z)
      exact lv_iload hx hb hd hk (hgo _ _ _ _ hr H locs ls hP hS hL hwL (List.forall_mem_cons.mpr ⟨trivial, hwS⟩))
    · cases hr
  | iload_n n =>
    have hn : nx = pc + 1 := of_decide_eq_true hil
    subst hn
    rw [Nat.add_sub_cancel_left] at hd
    simp only [am_exec] at hr
    split at hr
    · rename_i v hv
      have hk := hL.2.2.2 _ _ hv (fun z => by cases z)
      exact lv_iload_n hx hb hd rfl hk (hgo _ _ _ _ hr H locs ls hP hS hL hwL (List.forall_mem_cons.mpr ⟨trivial, hwS⟩))
    · cases hr
  | lload n =>
    have hn : nx = pc + 2 := of_decide_eq_true hil
    subst hn
    rw [Nat.add_sub_cancel_left] at hd
    simp only [am_exec] at hr
    split at hr
    · rename_i v hv
      have hk := hL.2.2.2 _ _ hv (fun z => by cases z)
      exact lv_lload hx hb hd hk (hgo _ _ _ _ hr H locs ls hP hS hL hwL (List.forall_mem_cons.mpr ⟨trivial, hwS⟩))
    · cases hr
  | lload_n n =>
    have hn : nx = pc + 1 := of_decide_eq_true hil
    subst hn
    rw [Nat.add_sub_cancel_left] at hd
    simp only [am_exec] at hr
    split at hr
    · rename_i v hv
      have hk := hL.2.2.2 _ _ hv (fun z => by cases z)
      exact lv_lload_n hx hb hd rfl hk (hgo _ _ _ _ hr H locs ls hP hS hL hwL (List.forall_mem_cons.mpr ⟨trivial, hwS⟩))
    · cases hr
  | aload n =>
    have hn : nx = pc + 2 := of_decide_eq_true hil
    subst hn
    rw [Nat.add_sub_cancel_left] at hd
    simp only [am_exec] at hr
    split at hr
    · rename_i v hv
      have hk := hL.2.2.2 _ _ hv (fun z => by cases z)
      exact lv_aload hx hb hd hk (hgo _ _ _ _ hr H locs ls hP hS hL hwL (List.forall_mem_cons.mpr ⟨hwL _ (am_nth_mem _ _ _ hv), hwS⟩))
    · cases hr
  | aload_n n =>
    have hn : nx = pc + 1 := of_decide_eq_true hil
    subst hn
    rw [Nat.add_sub_cancel_left] at hd
    simp only [am_exec] at hr
    split at hr
    · rename_i v hv
      have hk := hL.2.2.2 _ _ hv (fun z => by cases z)
      exact lv_aload_n hx hb hd rfl hk (hgo _ _ _ _ hr H locs ls hP hS hL hwL (List.forall_mem_cons.mpr ⟨hwL _ (am_nth_mem _ _ _ hv), hwS⟩))
    · cases hr
  | istore n =>
    have hn : nx = pc + 2 := of_decide_eq_true hil
    subst hn
    rw [Nat.add_sub_cancel_left] at hd
    simp only [am_exec] at hr
    have hlt := of_decide_eq_true hio
    split at hr
    · rename_i v st'
      split at hr
      · rename_i hh
        have hw := List.forall_mem_cons.mp hwS
        exact lv_istore hx hb hd hL.has hlt rfl (fun ls' hl' => hgo _ _ _ _ hr H locs ls' hP hS (hL.st1 ecat hh hl') (fun w hm => by
          rcases am_put_mem _ _ _ _ hm with q | q
          · rw [q]; exact hw.1
          · exact hwL w q) hw.2)
      · cases hr
    · cases hr
  | istore_n n =>
    have hn : nx = pc + 1 := of_decide_eq_true hil
    subst hn
    rw [Nat.add_sub_cancel_left] at hd
    simp only [am_exec] at hr
    have hlt := of_decide_eq_true hio
    split at hr
    · rename_i v st'
      split at hr
      · rename_i hh
        have hw := List.forall_mem_cons.mp hwS
        exact lv_istore_n hx hb hd rfl hL.has hlt rfl (fun ls' hl' => hgo _ _ _ _ hr H locs ls' hP hS (hL.st1 ecat hh hl') (fun w hm => by
          rcases am_put_mem _ _ _ _ hm with q | q
          · rw [q]; exact hw.1
          · exact hwL w q) hw.2)
      · cases hr
    · cases hr
  | astore n =>
    have hn : nx = pc + 2 := of_decide_eq_true hil
    subst hn
    rw [Nat.add_sub_cancel_left] at hd
    simp only [am_exec] at hr
    have hlt := of_decide_eq_true hio
    split at hr
    · rename_i v st'
      split at hr
      · rename_i hh
        have hw := List.forall_mem_cons.mp hwS
        exact lv_astore hx hb hd hL.has hlt rfl (fun ls' hl' => hgo _ _ _ _ hr H locs ls' hP hS (hL.st1 ecat hh hl') (fun w hm => by
          rcases am_put_mem _ _ _ _ hm with q | q
          · rw [q]; exact hw.1
          · exact hwL w q) hw.2)
      · cases hr
    · cases hr
  | astore_n n =>
    have hn : nx = pc + 1 := of_decide_eq_true hil
    subst hn
    rw [Nat.add_sub_cancel_left] at hd
    simp only [am_exec] at hr
    have hlt := of_decide_eq_true hio
    split at hr
    · rename_i v st'
      split at hr
      · rename_i hh
        have hw := List.forall_mem_cons.mp hwS
        exact lv_astore_n hx hb hd rfl hL.has hlt rfl (fun ls' hl' => hgo _ _ _ _ hr H locs ls' hP hS (hL.st1 ecat hh hl') (fun w hm => by
          rcases am_put_mem _ _ _ _ hm with q | q
          · rw [q]; exact hw.1
          · exact hwL w q) hw.2)
      · cases hr
    · cases hr
  | lstore n =>
    have hn : nx = pc + 2 := of_decide_eq_true hil
    subst hn
    rw [Nat.add_sub_cancel_left] at hd
    simp only [am_exec] at hr
    have hlt := of_decide_eq_true hio
    split at hr
    · rename_i v st'
      split at hr
      · rename_i hh
        have hw := List.forall_mem_cons.mp hwS
        exact lv_lstore hx hb hd hL.has hlt rfl (fun ls' hl' => hgo _ _ _ _ hr H locs ls' hP hS (hL.st2 ecat hh hl') (fun w hm => by
          rcases am_put_mem _ _ _ _ hm with q | q
          · rw [q]; exact trivial
          · rcases am_put_mem _ _ _ _ q with q | q
            · rw [q]; exact hw.1
            · exact hwL w q) hw.2)
      · cases hr
    · cases hr
  | lstore_n n =>
    have hn : nx = pc + 1 := of_decide_eq_true hil
    subst hn
    rw [Nat.add_sub_cancel_left] at hd
    simp only [am_exec] at hr
    have hlt := of_decide_eq_true hio
    split at hr
    · rename_i v st'
      split at hr
      · rename_i hh
        have hw := List.forall_mem_cons.mp hwS
        exact lv_lstore_n hx hb hd rfl hL.has hlt rfl (fun ls' hl' => hgo _ _ _ _ hr H locs ls' hP hS (hL.st2 ecat hh hl') (fun w hm => by
          rcases am_put_mem _ _ _ _ hm with q | q
          · rw [q]; exact trivial
          · rcases am_put_mem _ _ _ _ q with q | q
            · rw [q]; exact hw.1
            · exact hwL w q) hw.2)
      · cases hr
    · cases hr
  | iinc n k =>
    have hn : nx = pc + 3 := of_decide_eq_true hil
    subst hn
    rw [Nat.add_sub_cancel_left] at hd
    simp only [am_exec] at hr
    have hlt := of_decide_eq_true hio
    split at hr
    · rename_i v hv
      split at hr
      · rename_i hh
        obtain ⟨k9, hk9⟩ := List.mem_iff_getElem?.mp ((am_lv_mem G L 0 (n, .int v)).mpr ⟨n, .inl v, hv, (fun z => by cases z), by rw [Nat.zero_add]; rfl⟩)
        exact lv_iinc hx hb hd hL.has hk9 rfl hlt rfl (fun ls' hl' => hgo _ _ _ _ hr H locs ls' hP hS (hL.st1 ecat hh hl') (fun w hm => by
          rcases am_put_mem _ _ _ _ hm with q | q
          · rw [q]; exact trivial
          · exact hwL w q) hwS)
      · cases hr
    · cases hr
  | iadd =>
    have hn : nx = pc + 1 := of_decide_eq_true hil
    subst hn
    rw [Nat.add_sub_cancel_left] at hd
    simp only [am_exec] at hr
    split at hr
    · rename_i y x st'
      have hw := (List.forall_mem_cons.mp (List.forall_mem_cons.mp hwS).2).2
      exact lv_iadd hx hb hd (hgo _ _ _ _ hr H locs ls hP hS hL hwL (List.forall_mem_cons.mpr ⟨trivial, hw⟩))
    · cases hr
  | isub =>
    have hn : nx = pc + 1 := of_decide_eq_true hil
    subst hn
    rw [Nat.add_sub_cancel_left] at hd
    simp only [am_exec] at hr
    split at hr
    · rename_i y x st'
      have hw := (List.forall_mem_cons.mp (List.forall_mem_cons.mp hwS).2).2
      exact lv_isub hx hb hd (hgo _ _ _ _ hr H locs ls hP hS hL hwL (List.forall_mem_cons.mpr ⟨trivial, hw⟩))
    · cases hr
  | imul =>
    have hn : nx = pc + 1 := of_decide_eq_true hil
    subst hn
    rw [Nat.add_sub_cancel_left] at hd
    simp only [am_exec] at hr
    split at hr
    · rename_i y x st'
      have hw := (List.forall_mem_cons.mp (List.forall_mem_cons.mp hwS).2).2
      exact lv_imul hx hb hd (hgo _ _ _ _ hr H locs ls hP hS hL hwL (List.forall_mem_cons.mpr ⟨trivial, hw⟩))
    · cases hr
  | iand =>
    have hn : nx = pc + 1 := of_decide_eq_true hil
    subst hn
    rw [Nat.add_sub_cancel_left] at hd
    simp only [am_exec] at hr
    split at hr
    · rename_i y x st'
      have hw := (List.forall_mem_cons.mp (List.forall_mem_cons.mp hwS).2).2
      exact lv_iand hx hb hd (hgo _ _ _ _ hr H locs ls hP hS hL hwL (List.forall_mem_cons.mpr ⟨trivial, hw⟩))
    · cases hr
  | ior =>
    have hn : nx = pc + 1 := of_decide_eq_true hil
    subst hn
    rw [Nat.add_sub_cancel_left] at hd
    simp only [am_exec] at hr
    split at hr
    · rename_i y x st'
      have hw := (List.forall_mem_cons.mp (List.forall_mem_cons.mp hwS).2).2
      exact lv_ior hx hb hd (hgo _ _ _ _ hr H locs ls hP hS hL hwL (List.forall_mem_cons.mpr ⟨trivial, hw⟩))
    · cases hr
  | ixor =>
    have hn : nx = pc + 1 := of_decide_eq_true hil
    subst hn
    rw [Nat.add_sub_cancel_left] at hd
    simp only [am_exec] at hr
    split at hr
    · rename_i y x st'
      have hw := (List.forall_mem_cons.mp (List.forall_mem_cons.mp hwS).2).2
      exact lv_ixor hx hb hd (hgo _ _ _ _ hr H locs ls hP hS hL hwL (List.forall_mem_cons.mpr ⟨trivial, hw⟩))
    · cases hr
  | ishl =>
    have hn : nx = pc + 1 := of_decide_eq_true hil
    subst hn
    rw [Nat.add_sub_cancel_left] at hd
    simp only [am_exec] at hr
    split at hr
    · rename_i y x st'
      have hw := (List.forall_mem_cons.mp (List.forall_mem_cons.mp hwS).2).2
      exact lv_ishl hx hb hd (hgo _ _ _ _ hr H locs ls hP hS hL hwL (List.forall_mem_cons.mpr ⟨trivial, hw⟩))
    · cases hr
  | ishr =>
    have hn : nx = pc + 1 := of_decide_eq_true hil
    subst hn
    rw [Nat.add_sub_cancel_left] at hd
    simp only [am_exec] at hr
    split at hr
    · rename_i y x st'
      have hw := (List.forall_mem_cons.mp (List.forall_mem_cons.mp hwS).2).2
      exact lv_ishr hx hb hd (hgo _ _ _ _ hr H locs ls hP hS hL hwL (List.forall_mem_cons.mpr ⟨trivial, hw⟩))
    · cases hr
  | iushr =>
    have hn : nx = pc + 1 := of_decide_eq_true hil
    subst hn
    rw [Nat.add_sub_cancel_left] at hd
    simp only [am_exec] at hr
    split at hr
    · rename_i y x st'
      have hw := (List.forall_mem_cons.mp (List.forall_mem_cons.mp hwS).2).2
      exact lv_iushr hx hb hd rfl (hgo _ _ _ _ hr H locs ls hP hS hL hwL (List.forall_mem_cons.mpr ⟨trivial, hw⟩))
    · cases hr
  | ladd =>
    have hn : nx = pc + 1 := of_decide_eq_true hil
    subst hn
    rw [Nat.add_sub_cancel_left] at hd
    simp only [am_exec] at hr
    split at hr
    · rename_i y x st'
      have hw := (List.forall_mem_cons.mp (List.forall_mem_cons.mp hwS).2).2
      exact lv_ladd hx hb hd (hgo _ _ _ _ hr H locs ls hP hS hL hwL (List.forall_mem_cons.mpr ⟨trivial, hw⟩))
    · cases hr
  | lsub =>
    have hn : nx = pc + 1 := of_decide_eq_true hil
    subst hn
    rw [Nat.add_sub_cancel_left] at hd
    simp only [am_exec] at hr
    split at hr
    · rename_i y x st'
      have hw := (List.forall_mem_cons.mp (List.forall_mem_cons.mp hwS).2).2
      exact lv_lsub hx hb hd (hgo _ _ _ _ hr H locs ls hP hS hL hwL (List.forall_mem_cons.mpr ⟨trivial, hw⟩))
    · cases hr
  | lmul =>
    have hn : nx = pc + 1 := of_decide_eq_true hil
    subst hn
    rw [Nat.add_sub_cancel_left] at hd
    simp only [am_exec] at hr
    split at hr
    · rename_i y x st'
      have hw := (List.forall_mem_cons.mp (List.forall_mem_cons.mp hwS).2).2
      exact lv_lmul hx hb hd (hgo _ _ _ _ hr H locs ls hP hS hL hwL (List.forall_mem_cons.mpr ⟨trivial, hw⟩))
    · cases hr
  | land =>
    have hn : nx = pc + 1 := of_decide_eq_true hil
    subst hn
    rw [Nat.add_sub_cancel_left] at hd
    simp only [am_exec] at hr
    split at hr
    · rename_i y x st'
      have hw := (List.forall_mem_cons.mp (List.forall_mem_cons.mp hwS).2).2
      exact lv_land hx hb hd (hgo _ _ _ _ hr H locs ls hP hS hL hwL (List.forall_mem_cons.mpr ⟨trivial, hw⟩))
    · cases hr
  | lor =>
    have hn : nx = pc + 1 := of_decide_eq_true hil
    subst hn
    rw [Nat.add_sub_cancel_left] at hd
    simp only [am_exec] at hr
    split at hr
    · rename_i y x st'
      have hw := (List.forall_mem_cons.mp (List.forall_mem_cons.mp hwS).2).2
      exact lv_lor hx hb hd (hgo _ _ _ _ hr H locs ls hP hS hL hwL (List.forall_mem_cons.mpr ⟨trivial, hw⟩))
    · cases hr
  | lshl =>
    have hn : nx = pc + 1 := of_decide_eq_true hil
    subst hn
    rw [Nat.add_sub_cancel_left] at hd
    simp only [am_exec] at hr
    split at hr
    · rename_i y x st'
      have hw := (List.forall_mem_cons.mp (List.forall_mem_cons.mp hwS).2).2
      exact lv_lshl hx hb hd rfl (hgo _ _ _ _ hr H locs ls hP hS hL hwL (List.forall_mem_cons.mpr ⟨trivial, hw⟩))
    · cases hr
  | lshr =>
    have hn : nx = pc + 1 := of_decide_eq_true hil
    subst hn
    rw [Nat.add_sub_cancel_left] at hd
    simp only [am_exec] at hr
    split at hr
    · rename_i y x st'
      have hw := (List.forall_mem_cons.mp (List.forall_mem_cons.mp hwS).2).2
      exact lv_lshr hx hb hd rfl (hgo _ _ _ _ hr H locs ls hP hS hL hwL (List.forall_mem_cons.mpr ⟨trivial, hw⟩))
    · cases hr
  | lcmp =>
    have hn : nx = pc + 1 := of_decide_eq_true hil
    subst hn
    rw [Nat.add_sub_cancel_left] at hd
    simp only [am_exec] at hr
    split at hr
    · rename_i y x st'
      have hw := (List.forall_mem_cons.mp (List.forall_mem_cons.mp hwS).2).2
      exact W.lcmp hx hb hd (hgo _ _ _ _ hr H locs ls hP hS hL hwL (List.forall_mem_cons.mpr ⟨trivial, hw⟩))
    · cases hr
  | irem =>
    have hn : nx = pc + 1 := of_decide_eq_true hil
    subst hn
    rw [Nat.add_sub_cancel_left] at hd
    simp only [am_exec] at hr
    split at hr
    · rename_i y x st'
      split at hr
      · cases hr
      · rename_i hne
        have hw := (List.forall_mem_cons.mp (List.forall_mem_cons.mp hwS).2).2
        exact lv_irem hx hb hd hne (hgo _ _ _ _ hr H locs ls hP hS hL hwL (List.forall_mem_cons.mpr ⟨trivial, hw⟩))
    · cases hr
  | i2l =>
    have hn : nx = pc + 1 := of_decide_eq_true hil
    subst hn
    rw [Nat.add_sub_cancel_left] at hd
    simp only [am_exec] at hr
    split at hr
    · rename_i x st'
      have hw := (List.forall_mem_cons.mp hwS).2
      exact lv_i2l hx hb hd rfl (hgo _ _ _ _ hr H locs ls hP hS hL hwL (List.forall_mem_cons.mpr ⟨trivial, hw⟩))
    · cases hr
  | l2i =>
    have hn : nx = pc + 1 := of_decide_eq_true hil
    subst hn
    rw [Nat.add_sub_cancel_left] at hd
    simp only [am_exec] at hr
    split at hr
    · rename_i x st'
      have hw := (List.forall_mem_cons.mp hwS).2
      exact lv_l2i hx hb hd rfl (hgo _ _ _ _ hr H locs ls hP hS hL hwL (List.forall_mem_cons.mpr ⟨trivial, hw⟩))
    · cases hr
  | i2b =>
    have hn : nx = pc + 1 := of_decide_eq_true hil
    subst hn
    rw [Nat.add_sub_cancel_left] at hd
    simp only [am_exec] at hr
    split at hr
    · rename_i x st'
      have hw := (List.forall_mem_cons.mp hwS).2
      exact lv_i2b hx hb hd rfl (hgo _ _ _ _ hr H locs ls hP hS hL hwL (List.forall_mem_cons.mpr ⟨trivial, hw⟩))
    · cases hr
  | i2s =>
    have hn : nx = pc + 1 := of_decide_eq_true hil
    subst hn
    rw [Nat.add_sub_cancel_left] at hd
    simp only [am_exec] at hr
    split at hr
    · rename_i x st'
      have hw := (List.forall_mem_cons.mp hwS).2
      exact lv_i2s hx hb hd rfl (hgo _ _ _ _ hr H locs ls hP hS hL hwL (List.forall_mem_cons.mpr ⟨trivial, hw⟩))
    · cases hr
  | i2c =>
    have hn : nx = pc + 1 := of_decide_eq_true hil
    subst hn
    rw [Nat.add_sub_cancel_left] at hd
    simp only [am_exec] at hr
    split at hr
    · rename_i x st'
      have hw := (List.forall_mem_cons.mp hwS).2
      exact lv_i2c hx hb hd rfl (hgo _ _ _ _ hr H locs ls hP hS hL hwL (List.forall_mem_cons.mpr ⟨trivial, hw⟩))
    · cases hr
  | pop =>
    have hn : nx = pc + 1 := of_decide_eq_true hil
    subst hn
    rw [Nat.add_sub_cancel_left] at hd
    simp only [am_exec] at hr
    split at hr
    · rename_i v st'
      split at hr
      · rename_i hl
        exact lv_pop hx hb hd (by rw [am_cat ecat v, hl]) (hgo _ _ _ _ hr H locs ls hP hS hL hwL (List.forall_mem_cons.mp hwS).2)
      · cases hr
    · cases hr
  | dup =>
    have hn : nx = pc + 1 := of_decide_eq_true hil
    subst hn
    rw [Nat.add_sub_cancel_left] at hd
    simp only [am_exec] at hr
    split at hr
    · rename_i v st'
      split at hr
      · rename_i hl
        exact lv_dup hx hb hd (by rw [am_cat ecat v, hl]) (hgo _ _ _ _ hr H locs ls hP hS hL hwL (List.forall_mem_cons.mpr ⟨(List.forall_mem_cons.mp hwS).1, hwS⟩))
      · cases hr
    · cases hr
  | dup2 =>
    have hn : nx = pc + 1 := of_decide_eq_true hil
    subst hn
    rw [Nat.add_sub_cancel_left] at hd
    simp only [am_exec] at hr
    split at hr
    · rename_i v w st'
      split at hr
      · rename_i hl1 hl2
        have hw1 := List.forall_mem_cons.mp hwS
        have hw2 := List.forall_mem_cons.mp hw1.2
        exact lv_dup2_11 hx hb hd (by rw [am_cat ecat v, hl1]) (by rw [am_cat ecat w, hl2]) (hgo _ _ _ _ hr H locs ls hP hS hL hwL (List.forall_mem_cons.mpr ⟨hw1.1, List.forall_mem_cons.mpr ⟨hw2.1, hwS⟩⟩))
      · cases hr
    · cases hr
  | goto off =>
    have hn : nx = pc + 3 := of_decide_eq_true hil
    subst hn
    rw [Nat.add_sub_cancel_left] at hd
    simp only [am_exec] at hr
    exact lv_goto hx hb hd (of_decide_eq_true hio) (hgo _ _ _ _ hr H locs ls hP hS hL hwL hwS)
  | ifCond cd off =>
    have hn : nx = pc + 3 := of_decide_eq_true hil
    subst hn
    rw [Nat.add_sub_cancel_left] at hd
    simp only [am_exec] at hr
    have ht := of_decide_eq_true hio
    split at hr
    · rename_i x st'
      have hw := (List.forall_mem_cons.mp hwS).2
      cases cd with
      | eq =>
        dsimp only at hr
        exact lv_if_eq hx hb hd ht (fun q => hgo _ _ _ _ (by rwa [if_pos q] at hr) H locs ls hP hS hL hwL hw) (fun q => hgo _ _ _ _ (by rwa [if_neg q] at hr) H locs ls hP hS hL hwL hw)
      | ne =>
        dsimp only at hr
        exact lv_if_ne hx hb hd ht (fun q => hgo _ _ _ _ (by rwa [if_neg q] at hr) H locs ls hP hS hL hwL hw) (fun q => hgo _ _ _ _ (by rwa [if_pos q] at hr) H locs ls hP hS hL hwL hw)
      | lt =>
        dsimp only at hr
        exact lv_if_lt hx hb hd ht (fun q => hgo _ _ _ _ (by rwa [if_pos q] at hr) H locs ls hP hS hL hwL hw) (fun q => hgo _ _ _ _ (by rwa [if_neg q] at hr) H locs ls hP hS hL hwL hw)
      | ge =>
        dsimp only at hr
        exact lv_if_ge hx hb hd ht (fun q => hgo _ _ _ _ (by rwa [if_pos q] at hr) H locs ls hP hS hL hwL hw) (fun q => hgo _ _ _ _ (by rwa [if_neg q] at hr) H locs ls hP hS hL hwL hw)
      | gt =>
        dsimp only at hr
        exact lv_if_gt hx hb hd ht (fun q => hgo _ _ _ _ (by rwa [if_pos q] at hr) H locs ls hP hS hL hwL hw) (fun q => hgo _ _ _ _ (by rwa [if_neg q] at hr) H locs ls hP hS hL hwL hw)
      | le =>
        dsimp only at hr
        exact lv_if_le hx hb hd ht (fun q => hgo _ _ _ _ (by rwa [if_pos q] at hr) H locs ls hP hS hL hwL hw) (fun q => hgo _ _ _ _ (by rwa [if_neg q] at hr) H locs ls hP hS hL hwL hw)
    · cases hr
  | if_icmp cd off =>
    have hn : nx = pc + 3 := of_decide_eq_true hil
    subst hn
    rw [Nat.add_sub_cancel_left] at hd
    simp only [am_exec] at hr
    have ht := of_decide_eq_true hio
    split at hr
    · rename_i y x st'
      have hw := (List.forall_mem_cons.mp (List.forall_mem_cons.mp hwS).2).2
      cases cd with
      | eq =>
        dsimp only at hr
        exact lv_icmp_eq hx hb hd ht (fun q => hgo _ _ _ _ (by rwa [if_pos q] at hr) H locs ls hP hS hL hwL hw) (fun q => hgo _ _ _ _ (by rwa [if_neg q] at hr) H locs ls hP hS hL hwL hw)
      | ne =>
        dsimp only at hr
        exact lv_icmp_ne hx hb hd ht (fun q => hgo _ _ _ _ (by rwa [if_neg q] at hr) H locs ls hP hS hL hwL hw) (fun q => hgo _ _ _ _ (by rwa [if_pos q] at hr) H locs ls hP hS hL hwL hw)
      | lt =>
        dsimp only at hr
        exact lv_icmp_lt hx hb hd ht (fun q => hgo _ _ _ _ (by rwa [if_pos q] at hr) H locs ls hP hS hL hwL hw) (fun q => hgo _ _ _ _ (by rwa [if_neg q] at hr) H locs ls hP hS hL hwL hw)
      | ge =>
        dsimp only at hr
        exact lv_icmp_ge hx hb hd ht (fun q => hgo _ _ _ _ (by rwa [if_pos q] at hr) H locs ls hP hS hL hwL hw) (fun q => hgo _ _ _ _ (by rwa [if_neg q] at hr) H locs ls hP hS hL hwL hw)
      | gt =>
        dsimp only at hr
        exact lv_icmp_gt hx hb hd ht (fun q => hgo _ _ _ _ (by rwa [if_pos q] at hr) H locs ls hP hS hL hwL hw) (fun q => hgo _ _ _ _ (by rwa [if_neg q] at hr) H locs ls hP hS hL hwL hw)
      | le =>
        dsimp only at hr
        exact lv_icmp_le hx hb hd ht (fun q => hgo _ _ _ _ (by rwa [if_pos q] at hr) H locs ls hP hS hL hwL hw) (fun q => hgo _ _ _ _ (by rwa [if_neg q] at hr) H locs ls hP hS hL hwL hw)
    · cases hr
  | tableswitch dflt lo hi offs =>
    simp only [am_exec] at hr
    obtain ⟨t1, t2, t3, t4, t5⟩ := of_decide_eq_true hio
    split at hr
    · rename_i x st' d ts
      have hw := (List.forall_mem_cons.mp hwS).2
      simp only [List.tail_cons, am_hd] at t1 t2 t5
      rcases am_sw_inv ts lo t3 (by omega) hr with ⟨q, h3⟩ | ⟨i, t, h3, h4, h5⟩
      · exact lv_tableOut hx hb hd (by omega) t1 (hgo _ _ _ _ h3 H locs ls hP hS hL hwL hw)
      · have hi : i < ts.length := (List.getElem?_eq_some_iff.mp h3).1
        have h6 : (ts.map (fun (t : Nat) => (t : Int)))[i]? = some (t : Int) := by rw [List.getElem?_map, h3]; rfl
        rw [← t5, List.getElem?_map] at h6
        cases h7 : offs.toList[i]? with
        | none => rw [h7] at h6; cases h6
        | some off =>
          rw [h7] at h6
          have h8 : offs[(x.toInt - lo).toNat]? = some off := by
            rw [h4, show (lo + (i : Int) - lo).toNat = i by omega, ← Array.getElem?_toList]
            exact h7
          exact lv_tableIn hx hb hd (by omega) (by omega) h8 (Option.some.inj h6) (hgo _ _ _ _ h5 H locs ls hP hS hL hwL hw)
    · cases hr
  | getfield ix =>
    have hn : nx = pc + 3 := of_decide_eq_true hil
    subst hn
    rw [Nat.add_sub_cancel_left] at hd
    simp only [am_exec] at hr
    split at hr
    · rename_i c0 k0 c' j0 st' hv
      split at hr
      · rename_i hbq
        have hcc := Nat.eq_of_beq_eq_true hbq
        subst hcc
        have hw := (List.forall_mem_cons.mp hwS).2
        have hj : j0 < am_cnt c0 := (List.forall_mem_cons.mp hwS).1
        rcases hFp _ (am_get_mem _ _ _ hv) with ⟨f1, f2, C, T, ty0, f3, f4, f5, f6, f7, f8, f9, f10, f11⟩ | ⟨f1, f2⟩
        · dsimp only at f1 f2 f3 f4 f5 f6 f7 f8 f9 f10 f11
          have hat := am_w_at G h (c := c0) (by omega) hj
          rw [am_cell_o G h f1] at hat
          have hfv : ((List.range (am_fl c0).length).map (am_fv G h c0 j0))[k0]? = some (am_fv G h c0 j0 k0) := by rw [List.getElem?_map, List.getElem?_range f2]; rfl
          have hgt : ∀ v : Value, am_fv G h c0 j0 k0 = v → W p l e R s m args below meth c H locs cells slots (Q r) (F0 m (pc + 3) ls (v :: st'.map (am_tr G))) → W p l e R s m args below meth c H locs cells slots (Q r) (F0 m pc ls (.ref (am_loc G (c0, j0)) :: st'.map (am_tr G))) := by
            intro v ev kk
            rw [am_loc_o G (by omega)]
            exact va_get hx hb hts f4 hown eK hP _ hat f3 k0 f2 (hts _ f8) (fun x hx9 => by rw [f7] at hx9; exact hx9) (by rw [hfv, ev]) hd kk
          split at hr
          · rename_i e9
            exact hgt (.int (h_rI h c0 j0 k0)) (by unfold am_fv; rw [e9]; rfl) (hgo _ _ _ _ hr H locs ls hP hS hL hwL (List.forall_mem_cons.mpr ⟨trivial, hw⟩))
          · rename_i e9
            exact hgt (.int (h_rI h c0 j0 k0)) (by unfold am_fv; rw [e9]; rfl) (hgo _ _ _ _ hr H locs ls hP hS hL hwL (List.forall_mem_cons.mpr ⟨trivial, hw⟩))
          · rename_i e9
            exact hgt (.long (h_rJ h c0 j0 k0)) (by unfold am_fv; rw [e9]; rfl) (hgo _ _ _ _ hr H locs ls hP hS hL hwL (List.forall_mem_cons.mpr ⟨trivial, hw⟩))
          · rename_i e9
            exact hgt (.ref (am_loc G (am_rf c0 j0 k0))) (by unfold am_fv; rw [e9]; rfl) (hgo _ _ _ _ hr H locs ls hP hS hL hwL (List.forall_mem_cons.mpr ⟨am_fl_rf c0 f1 j0 hj k0 f2 e9, hw⟩))
          · rename_i e9
            have : ∀ c, c < 8 → ∀ k, k < (am_fl c).length → am_ft c k ≠ 4 := by decide +kernel
            exact absurd e9 (this c0 f1 k0 f2)
          · cases hr
        · dsimp only at f1 f2
          subst f1
          have hT := (eT.1 j0 hj)
          rcases f2 with ⟨g1, g2⟩ | ⟨g1, g2⟩
          · subst g1
            exact vk_getf hx hb hT.2.2.1 hS hown (hts _ g2) (fun _ h9 => h9) hd (hgo _ _ _ _ hr H locs ls hP hS hL hwL (List.forall_mem_cons.mpr ⟨hj, hw⟩))
          · subst g1
            exact vk_getf hx hb hT.2.1 hS hown (hts _ g2) (fun _ h9 => h9) hd (hgo _ _ _ _ hr H locs ls hP hS hL hwL (List.forall_mem_cons.mpr ⟨trivial, hw⟩))
      · cases hr
    · cases hr
  | putfield ix =>
    have hn : nx = pc + 3 := of_decide_eq_true hil
    subst hn
    rw [Nat.add_sub_cancel_left] at hd
    simp only [am_exec] at hr
    split at hr
    · rename_i c0 k0 v0 c' j0 st' hv
      have hw := (List.forall_mem_cons.mp (List.forall_mem_cons.mp hwS).2).2
      have hj' : j0 < am_cnt c' := (List.forall_mem_cons.mp (List.forall_mem_cons.mp hwS).2).1
      have hput : ∀ (v : Value) (ty : FieldType) (h2 : HP), Nat.beq c0 c' = true → (am_ft c0 k0 = 0 ∧ ty = .int ∨ am_ft c0 k0 = 1 ∧ ty = .boolean ∨ am_ft c0 k0 = 2 ∧ ty = .long) → narrow ty v = v → fits ty v = true → (∀ (fs : List Value), ((List.range (am_fl c0).length).map (am_fv G h c0 j0)) = fs → fs.set k0 v = (List.range (am_fl c0).length).map (am_fv G h2 c0 j0)) → (c0 < 8 → (am_w G h).set (am_off c0 + j0) (G.2.2.1 (am_off c0 + j0), am_cell G h2 c0 j0) = am_w G h2) → go (pc + 3) L st' h2 = some r → W p l e R s m args below meth c H locs cells slots (Q r) (F0 m pc ls (v :: .ref (am_loc G (c', j0)) :: st'.map (am_tr G))) := by
        intro v ty h2 hbq hty hnar hfit hset hws hr2
        have hcc := Nat.eq_of_beq_eq_true hbq
        subst hcc
        rcases hFp _ (am_get_mem _ _ _ hv) with ⟨f1, f2, C, T, ty0, f3, f4, f5, f6, f7, f8, f9, f10, f11⟩ | ⟨f1, f2⟩
        · dsimp only at f1 f2 f3 f4 f5 f6 f7 f8 f9 f10 f11
          have hat := am_w_at G h (c := c0) (by omega) hj'
          rw [am_cell_o G h f1] at hat
          have hfin : (T k0).2.2.2 = false ∧ ty0 k0 = ty := by
            rcases hty with ⟨e1, e2⟩ | ⟨e1, e2⟩ | ⟨e1, e2⟩
            · exact ⟨(f9 e1).2, by rw [e2]; exact (f9 e1).1⟩
            · exact ⟨(f10 e1).2, by rw [e2]; exact (f10 e1).1⟩
            · exact ⟨(f11 e1).2, by rw [e2]; exact (f11 e1).1⟩
          rw [am_loc_o G (by omega)]
          refine va_put hx hb hts f4 ty0 f5 f6 hown eK hP (hDw h) hS _ hat f3 k0 f2 (hts _ f8) (fun x hx9 => by rw [f7] at hx9; exact hx9) hfin.1 (by rw [f5 k0 f2, hfin.2]) hnar hfit (by simpa using f2) hd (fun H1 locs1 hP1 hD1 hS1 => ?_)
          rw [hset _ rfl, ← am_cell_o G h2 f1, hws f1] at hP1
          exact hgo _ _ _ _ hr2 H1 locs1 ls hP1 hS1 hL hwL hw
        · dsimp only at f1 f2
          subst f1
          rcases f2 with ⟨g1, -⟩ | ⟨g1, -⟩ <;> subst g1 <;> rcases hty with ⟨e1, -⟩ | ⟨e1, -⟩ | ⟨e1, -⟩ <;> exact absurd e1 (by decide)
      split at hr
      · rename_i x hbq
        split at hr
        · rename_i e9
          exact hput (.int x) .int _ hbq (Or.inl ⟨e9, rfl⟩) rfl rfl (fun fs efs => by rw [← efs]; exact am_fs_wI G h x (Or.inl e9)) (fun f1 => am_w_wI G h k0 x (by omega) (by rw [Nat.eq_of_beq_eq_true hbq]; exact hj')) hr
        · rename_i e9
          split at hr
          · rename_i hb1
            have hfit : fits .boolean (.int x) = true := am_bit hb1
            exact hput (.int x) .boolean _ hbq (Or.inr (Or.inl ⟨e9, rfl⟩)) (by show Value.int (x &&& 1) = _; rw [hb1]) hfit (fun fs efs => by rw [← efs]; exact am_fs_wI G h x (Or.inr e9)) (fun f1 => am_w_wI G h k0 x (by omega) (by rw [Nat.eq_of_beq_eq_true hbq]; exact hj')) hr
          · cases hr
        · cases hr
      · rename_i x hbq
        split at hr
        · rename_i e9
          exact hput (.long x) .long _ hbq (Or.inr (Or.inr ⟨e9, rfl⟩)) rfl rfl (fun fs efs => by rw [← efs]; exact am_fs_wJ G h x e9) (fun f1 => am_w_wJ G h k0 x (by omega) (by rw [Nat.eq_of_beq_eq_true hbq]; exact hj')) hr
        · cases hr
      · cases hr
    · cases hr
  | getstatic ix =>
    have hn : nx = pc + 3 := of_decide_eq_true hil
    subst hn
    rw [Nat.add_sub_cancel_left] at hd
    simp only [am_exec] at hr
    split at hr
    · rename_i v hv
      obtain ⟨k1, k2⟩ := hSp _ (am_get_mem _ _ _ hv)
      rw [k1] at hr
      exact va_gets hx hb eZ hS hown (hts _ k2) (fun _ h9 => h9) hd (hgo _ _ _ _ hr H locs ls hP hS hL hwL (List.forall_mem_cons.mpr ⟨trivial, hwS⟩))
    · rename_i u hv
      have k2 := hSp _ (am_get_mem _ _ _ hv)
      exact va_gets hx hb eY hS hown (hts _ k2) (fun _ h9 => h9) hd (hgo _ _ _ _ hr H locs ls hP hS hL hwL (List.forall_mem_cons.mpr ⟨trivial, hwS⟩))
    · cases hr
  | arraylength =>
    have hn : nx = pc + 1 := of_decide_eq_true hil
    subst hn
    rw [Nat.add_sub_cancel_left] at hd
    simp only [am_exec] at hr
    split at hr
    · rename_i c0 j0 st'
      have hw := (List.forall_mem_cons.mp hwS).2
      have hj : j0 < am_cnt c0 := (List.forall_mem_cons.mp hwS).1
      split at hr
      · have hbl : G.2.2.2.2.2.1.1 < s.heap.size := by
          obtain ⟨scr, hs, -⟩ := eX
          exact (Array.getElem?_eq_some_iff.mp hs).1
        exact va_slen hx hb eX hbl eB hS hd (hgo _ _ _ _ hr H locs ls hP hS hL hwL (List.forall_mem_cons.mpr ⟨trivial, hw⟩))
      · exact va_tlen hx hb (eT.1 j0 hj).2.2.2 hS rfl hd (hgo _ _ _ _ hr H locs ls hP hS hL hwL (List.forall_mem_cons.mpr ⟨trivial, hw⟩))
      · cases hr
    · cases hr
  | iaload =>
    have hn : nx = pc + 1 := of_decide_eq_true hil
    subst hn
    rw [Nat.add_sub_cancel_left] at hd
    simp only [am_exec] at hr
    split at hr
    · rename_i i0 c0 j0 st'
      have hw := (List.forall_mem_cons.mp (List.forall_mem_cons.mp hwS).2).2
      have hj : j0 < am_cnt c0 := (List.forall_mem_cons.mp (List.forall_mem_cons.mp hwS).2).1
      split at hr
      · obtain ⟨k, h1, h2⟩ := Option.bind_eq_some_iff.mp hr
        obtain ⟨h3, h4⟩ := am_ix_some h1
        subst h4
        exact va_iald hx hb eK hP (am_off 11 + j0) 3 (am_w_at G h (c := 11) (by decide) hj) rfl h3 hd (hgo _ _ _ _ h2 H locs ls hP hS hL hwL (List.forall_mem_cons.mpr ⟨trivial, hw⟩))
      · obtain ⟨k, h1, h2⟩ := Option.bind_eq_some_iff.mp hr
        obtain ⟨h3, h4⟩ := am_ix_some h1
        subst h4
        exact va_iald hx hb eK hP (am_off 13 + j0) 3 (am_w_at G h (c := 13) (by decide) hj) rfl h3 hd (hgo _ _ _ _ h2 H locs ls hP hS hL hwL (List.forall_mem_cons.mpr ⟨trivial, hw⟩))
      · obtain ⟨k, h1, h2⟩ := Option.bind_eq_some_iff.mp hr
        obtain ⟨h3, h4⟩ := am_ix_some h1
        subst h4
        have hbl : G.2.2.2.2.2.1.1 < s.heap.size := by
          obtain ⟨scr, hs, -⟩ := eX
          exact (Array.getElem?_eq_some_iff.mp hs).1
        exact va_sld hx hb eX hbl eB hS h3 hd (hgo _ _ _ _ h2 H locs ls hP hS hL hwL (List.forall_mem_cons.mpr ⟨trivial, hw⟩))
      · cases hr
    · cases hr
  | baload =>
    have hn : nx = pc + 1 := of_decide_eq_true hil
    subst hn
    rw [Nat.add_sub_cancel_left] at hd
    simp only [am_exec] at hr
    split at hr
    · rename_i i0 c0 j0 st'
      have hw := (List.forall_mem_cons.mp (List.forall_mem_cons.mp hwS).2).2
      have hj : j0 < am_cnt c0 := (List.forall_mem_cons.mp (List.forall_mem_cons.mp hwS).2).1
      split at hr
      · obtain ⟨k, h1, h2⟩ := Option.bind_eq_some_iff.mp hr
        obtain ⟨h3, h4⟩ := am_ix_some h1
        subst h4
        exact va_tb hx hb (eT.1 j0 hj).2.2.2 hS h3 rfl hd (hgo _ _ _ _ h2 H locs ls hP hS hL hwL (List.forall_mem_cons.mpr ⟨trivial, hw⟩))
      · cases hr
    · cases hr
  | laload =>
    have hn : nx = pc + 1 := of_decide_eq_true hil
    subst hn
    rw [Nat.add_sub_cancel_left] at hd
    simp only [am_exec] at hr
    split at hr
    · rename_i i0 c0 j0 st'
      have hw := (List.forall_mem_cons.mp (List.forall_mem_cons.mp hwS).2).2
      have hj : j0 < am_cnt c0 := (List.forall_mem_cons.mp (List.forall_mem_cons.mp hwS).2).1
      split at hr
      · obtain ⟨k, h1, h2⟩ := Option.bind_eq_some_iff.mp hr
        obtain ⟨h3, h4⟩ := am_ix_some h1
        subst h4
        exact va_lald hx hb eK hP (am_off 12 + j0) 4 (am_w_at G h (c := 12) (by decide) hj) rfl h3 hd (hgo _ _ _ _ h2 H locs ls hP hS hL hwL (List.forall_mem_cons.mpr ⟨trivial, hw⟩))
      · obtain ⟨k, h1, h2⟩ := Option.bind_eq_some_iff.mp hr
        obtain ⟨h3, h4⟩ := am_ix_some h1
        subst h4
        exact va_lald hx hb eK hP (am_off 14 + j0) 4 (am_w_at G h (c := 14) (by decide) hj) rfl h3 hd (hgo _ _ _ _ h2 H locs ls hP hS hL hwL (List.forall_mem_cons.mpr ⟨trivial, hw⟩))
      · cases hr
    · cases hr
  | aaload =>
    have hn : nx = pc + 1 := of_decide_eq_true hil
    subst hn
    rw [Nat.add_sub_cancel_left] at hd
    simp only [am_exec] at hr
    split at hr
    · rename_i i0 c0 j0 st'
      have hw := (List.forall_mem_cons.mp (List.forall_mem_cons.mp hwS).2).2
      have hj : j0 < am_cnt c0 := (List.forall_mem_cons.mp (List.forall_mem_cons.mp hwS).2).1
      split at hr
      · obtain ⟨k, h1, h2⟩ := Option.bind_eq_some_iff.mp hr
        obtain ⟨h3, h4⟩ := am_ix_some h1
        have hlt : i0.toNatClampNeg < am_len 8 j0 := Nat.not_le.mp fun q => h3 (Or.inr q)
        subst h4
        exact va_aldq hx hb eK hP (am_off 8 + j0) 0 (am_w_at G h (c := 8) (by decide) hj) rfl h3 hd (hgo _ _ _ _ h2 H locs ls hP hS hL hwL (List.forall_mem_cons.mpr ⟨am_ar_rf 8 (by decide) (by decide) j0 hj _ hlt, hw⟩))
      · obtain ⟨k, h1, h2⟩ := Option.bind_eq_some_iff.mp hr
        obtain ⟨h3, h4⟩ := am_ix_some h1
        have hlt : i0.toNatClampNeg < am_len 9 j0 := Nat.not_le.mp fun q => h3 (Or.inr q)
        subst h4
        exact va_aldq hx hb eK hP (am_off 9 + j0) 1 (am_w_at G h (c := 9) (by decide) hj) rfl h3 hd (hgo _ _ _ _ h2 H locs ls hP hS hL hwL (List.forall_mem_cons.mpr ⟨am_ar_rf 9 (by decide) (by decide) j0 hj _ hlt, hw⟩))
      · obtain ⟨k, h1, h2⟩ := Option.bind_eq_some_iff.mp hr
        obtain ⟨h3, h4⟩ := am_ix_some h1
        have hlt : i0.toNatClampNeg < am_len 10 j0 := Nat.not_le.mp fun q => h3 (Or.inr q)
        subst h4
        exact va_aldq hx hb eK hP (am_off 10 + j0) 2 (am_w_at G h (c := 10) (by decide) hj) rfl h3 hd (hgo _ _ _ _ h2 H locs ls hP hS hL hwL (List.forall_mem_cons.mpr ⟨am_ar_rf 10 (by decide) (by decide) j0 hj _ hlt, hw⟩))
      · cases hr
    · cases hr
  | iastore =>
    have hn : nx = pc + 1 := of_decide_eq_true hil
    subst hn
    rw [Nat.add_sub_cancel_left] at hd
    simp only [am_exec] at hr
    split at hr
    · rename_i x0 i0 c0 j0 st'
      have hw := (List.forall_mem_cons.mp (List.forall_mem_cons.mp (List.forall_mem_cons.mp hwS).2).2).2
      have hj : j0 < am_cnt c0 := (List.forall_mem_cons.mp (List.forall_mem_cons.mp (List.forall_mem_cons.mp hwS).2).2).1
      split at hr
      · obtain ⟨k, h1, h2⟩ := Option.bind_eq_some_iff.mp hr
        obtain ⟨h3, h4⟩ := am_ix_some h1
        subst h4
        refine va_iast hx hb eK hP (hDw h) hS (am_off 11 + j0) 3 (am_w_at G h (c := 11) (by decide) hj) rfl h3 hd (fun H1 locs1 hP1 hD1 hS1 => ?_)
        refine hgo _ _ _ _ h2 H1 locs1 ls ?_ hS1 hL hwL hw
        rw [← am_w_wI G h _ _ (by decide) hj]
        have ec : am_cell G (h_wI h 11 j0 i0.toNatClampNeg x0) 11 j0 = .inl (G.2.1 11, am_len 11 j0, .inl (upd (fun k => h_rI h 11 j0 k) i0.toNatClampNeg x0)) := am_up_cellI11 _ _ _ _ _
        rw [ec]
        exact hP1
      · obtain ⟨k, h1, h2⟩ := Option.bind_eq_some_iff.mp hr
        obtain ⟨h3, h4⟩ := am_ix_some h1
        subst h4
        refine va_iast hx hb eK hP (hDw h) hS (am_off 13 + j0) 3 (am_w_at G h (c := 13) (by decide) hj) rfl h3 hd (fun H1 locs1 hP1 hD1 hS1 => ?_)
        refine hgo _ _ _ _ h2 H1 locs1 ls ?_ hS1 hL hwL hw
        rw [← am_w_wI G h _ _ (by decide) hj]
        have ec : am_cell G (h_wI h 13 j0 i0.toNatClampNeg x0) 13 j0 = .inl (G.2.1 11, am_len 13 j0, .inl (upd (fun k => h_rI h 13 j0 k) i0.toNatClampNeg x0)) := am_up_cellI13 _ _ _ _ _
        rw [ec]
        exact hP1
      · cases hr
    · cases hr
  | lastore =>
    have hn : nx = pc + 1 := of_decide_eq_true hil
    subst hn
    rw [Nat.add_sub_cancel_left] at hd
    simp only [am_exec] at hr
    split at hr
    · rename_i x0 i0 c0 j0 st'
      have hw := (List.forall_mem_cons.mp (List.forall_mem_cons.mp (List.forall_mem_cons.mp hwS).2).2).2
      have hj : j0 < am_cnt c0 := (List.forall_mem_cons.mp (List.forall_mem_cons.mp (List.forall_mem_cons.mp hwS).2).2).1
      split at hr
      · obtain ⟨k, h1, h2⟩ := Option.bind_eq_some_iff.mp hr
        obtain ⟨h3, h4⟩ := am_ix_some h1
        subst h4
        refine va_last hx hb eK hP (hDw h) hS (am_off 12 + j0) 4 (am_w_at G h (c := 12) (by decide) hj) rfl h3 hd (fun H1 locs1 hP1 hD1 hS1 => ?_)
        refine hgo _ _ _ _ h2 H1 locs1 ls ?_ hS1 hL hwL hw
        rw [← am_w_wJ G h _ _ (by decide) hj]
        have ec : am_cell G (h_wJ h 12 j0 i0.toNatClampNeg x0) 12 j0 = .inl (G.2.1 12, am_len 12 j0, .inr (.inl (vp_updL (fun k => h_rJ h 12 j0 k) i0.toNatClampNeg x0))) := am_up_cellJ12 _ _ _ _ _
        rw [ec]
        exact hP1
      · obtain ⟨k, h1, h2⟩ := Option.bind_eq_some_iff.mp hr
        obtain ⟨h3, h4⟩ := am_ix_some h1
        subst h4
        refine va_last hx hb eK hP (hDw h) hS (am_off 14 + j0) 4 (am_w_at G h (c := 14) (by decide) hj) rfl h3 hd (fun H1 locs1 hP1 hD1 hS1 => ?_)
        refine hgo _ _ _ _ h2 H1 locs1 ls ?_ hS1 hL hwL hw
        rw [← am_w_wJ G h _ _ (by decide) hj]
        have ec : am_cell G (h_wJ h 14 j0 i0.toNatClampNeg x0) 14 j0 = .inl (G.2.1 12, am_len 14 j0, .inr (.inl (vp_updL (fun k => h_rJ h 14 j0 k) i0.toNatClampNeg x0))) := am_up_cellJ14 _ _ _ _ _
        rw [ec]
        exact hP1
      · cases hr
    · cases hr
  | invokevirtual ix =>
    have hn : nx = pc + 3 := of_decide_eq_true hil
    subst hn
    rw [Nat.add_sub_cancel_left] at hd
    simp only [am_exec] at hr
    split at hr
    · rename_i n F hv
      split at hr
      · rename_i as rest htk
        split at hr
        · rename_i hsz
          obtain ⟨v, h', h1, h2⟩ := am_call_app hr
          obtain ⟨xs, x1, x2, x3⟩ := am_take_spec _ _ _ _ _ htk
          rw [List.append_nil] at x2
          subst x2
          rw [x3] at hwS ⊢
          have hwa : ∀ v ∈ as, am_wv v := fun v hv => hwS v (List.mem_append_left _ (List.mem_reverse.mpr hv))
          have hwr : ∀ v ∈ rest, am_wv v := fun v hv => hwS v (List.mem_append_right _ hv)
          obtain ⟨g1, g2⟩ := hVc _ _ _ hv as h h' v h1 x1 hwa
          rw [List.map_append, List.map_reverse]
          exact am_goes (g2 pc rest H locs ls hd hL.2.1 (Nat.le_of_ble_eq_true hsz) hP hS) hS hL hwL (fun w hm => by
            rcases List.mem_append.mp hm with q | q
            · exact g1 w (by cases v with
                | none => cases q
                | some z => rw [List.mem_singleton.mp q])
            · exact hwr w q) (hgo _ _ _ _ h2)
        · cases hr
      · cases hr
    · cases hr
  | invokestatic ix =>
    have hn : nx = pc + 3 := of_decide_eq_true hil
    subst hn
    rw [Nat.add_sub_cancel_left] at hd
    simp only [am_exec] at hr
    split at hr
    · rename_i n F hv
      split at hr
      · rename_i as rest htk
        split at hr
        · rename_i hsz
          obtain ⟨v, h', h1, h2⟩ := am_call_app hr
          obtain ⟨xs, x1, x2, x3⟩ := am_take_spec _ _ _ _ _ htk
          rw [List.append_nil] at x2
          subst x2
          rw [x3] at hwS ⊢
          have hwa : ∀ v ∈ as, am_wv v := fun v hv => hwS v (List.mem_append_left _ (List.mem_reverse.mpr hv))
          have hwr : ∀ v ∈ rest, am_wv v := fun v hv => hwS v (List.mem_append_right _ hv)
          obtain ⟨g1, g2⟩ := hSc _ _ _ hv as h h' v h1 x1 hwa
          rw [List.map_append, List.map_reverse]
          exact am_goes (g2 pc rest H locs ls hd hL.2.1 (Nat.le_of_ble_eq_true hsz) hP hS) hS hL hwL (fun w hm => by
            rcases List.mem_append.mp hm with q | q
            · exact g1 w (by cases v with
                | none => cases q
                | some z => rw [List.mem_singleton.mp q])
            · exact hwr w q) (hgo _ _ _ _ h2)
        · cases hr
      · cases hr
    · split at hr
      · rename_i hnone u n0 dp0 j2 sp0 j1 hv
        split at hr
        · cases hr
        · rename_i hcnd
          obtain ⟨a1, a2, a3, a4, a5, a6⟩ := hAc _ (am_get_mem _ _ _ hv)
          have hw1 := (List.forall_mem_cons.mp (List.forall_mem_cons.mp hwS).2).2
          have hj2 : j2 < am_cnt 12 := (List.forall_mem_cons.mp hw1).1
          have hw2 := (List.forall_mem_cons.mp (List.forall_mem_cons.mp hw1).2).2
          have hj1 : j1 < am_cnt 12 := (List.forall_mem_cons.mp hw2).1
          have q1 : ¬ sp0 < 0 := fun q => hcnd (Or.inl q)
          have q2 : ¬ dp0 < 0 := fun q => hcnd (Or.inr (Or.inl q))
          have q3 : ¬ n0 < 0 := fun q => hcnd (Or.inr (Or.inr (Or.inl q)))
          have q4 : sp0.toNatClampNeg + n0.toNatClampNeg ≤ 40 := Nat.not_lt.mp fun q => hcnd (Or.inr (Or.inr (Or.inr (Or.inl q))))
          have q5 : dp0.toNatClampNeg + n0.toNatClampNeg ≤ 40 := Nat.not_lt.mp fun q => hcnd (Or.inr (Or.inr (Or.inr (Or.inr q))))
          refine va_copyl hx hb (by rw [hml]; exact hL.2.1.symm) hown (hts _ a1) (hts _ a2) (hts _ a3) (hts _ a4) eK hP (hDw h) hS (am_off 12 + j1) (am_off 12 + j2) 4 4 (am_w_at G h (c := 12) (by decide) hj1) (am_w_at G h (c := 12) (by decide) hj2) rfl rfl rfl q1 q2 q3 q4 q5 (fun _ _ => rfl) a5 (by show 0 + _ ≤ _; omega) hd (fun H1 locs1 hP1 hD1 hS1 => ?_)
          refine hgo _ _ _ _ hr H1 locs1 ls ?_ hS1 hL hwL (fun _ q => by cases q)
          rw [← am_w_cp G h _ _ _ hj2]
          have ec : am_cell G (h_cp h j1 j2 sp0.toNatClampNeg dp0.toNatClampNeg n0.toNatClampNeg) 12 j2 = .inl (G.2.1 12, am_len 12 j2, .inr (.inl (va_cpy (fun k => h_rJ h 12 j1 k) (fun k => h_rJ h 12 j2 k) sp0.toNatClampNeg dp0.toNatClampNeg n0.toNatClampNeg))) := am_up_cp _ _ _ _ _ _ _
          rw [ec]
          exact hP1
      · cases hr
  | ireturn =>
    have hn : nx = pc + 1 := of_decide_eq_true hil
    subst hn
    rw [Nat.add_sub_cancel_left] at hd
    simp only [am_exec] at hr
    split at hr
    · rename_i v
      exact hRi (.inl v) h r pc ls H locs hr trivial hd hP hS
    · cases hr
  | return_ =>
    have hn : nx = pc + 1 := of_decide_eq_true hil
    subst hn
    rw [Nat.add_sub_cancel_left] at hd
    simp only [am_exec] at hr
    split at hr
    · exact hRv (.inr (.inr (.inr ()))) h r pc ls H locs hr trivial hd hP hS
    · cases hr
  | lreturn =>
    have hn : nx = pc + 1 := of_decide_eq_true hil
    subst hn
    rw [Nat.add_sub_cancel_left] at hd
    simp only [am_exec] at hr
    split at hr
    · rename_i v
      exact hRj (.inr (.inl v)) h r pc ls H locs hr trivial hd hP hS
    · cases hr
  | areturn =>
    have hn : nx = pc + 1 := of_decide_eq_true hil
    subst hn
    rw [Nat.add_sub_cancel_left] at hd
    simp only [am_exec] at hr
    split at hr
    · rename_i v
      exact hRr (.inr (.inr (.inl v))) h r pc ls H locs hr (List.forall_mem_cons.mp hwS).1 hd hP hS
    · cases hr
  | _ => cases hr
/-- a run -/
theorem am_run_ok {ρ : Type} {G : AG} {nL : Nat} {cc : ByteArray} {own : String} {Ts : List Cond} {P : AP} {Rr : AR ρ} {Q : ρ → State → Prop} (CX : am_X p l e R s m args below meth c cells slots G nL cc own Ts P Rr Q)
    {C : List AC} (hC : ∀ x ∈ C, am_ok cc nL x = true) {K : List (Nat × (List AV → List AV → HP → Option ρ))} {r : ρ} (hK : ∀ pc k, am_get K pc = some k → ∀ L st h, k L st h = some r → am_W p l e R s m args below meth c cells slots G nL (Q r) pc L st h) :
    ∀ (n pc : Nat) (L st : List AV) (h : HP), am_run (G.2.2.2.2.2.1.2.2, G.2.2.2.2.2.1.2.1) P Rr C K n pc L st h = some r → am_W p l e R s m args below meth c cells slots G nL (Q r) pc L st h
  | 0, pc, L, st, h, hr => by cases hr
  | n + 1, pc, L, st, h, hr => by
    unfold am_run at hr
    cases hg : am_get C pc with
    | none => rw [hg] at hr; cases hr
    | some x =>
      obtain ⟨ins, nx, tg⟩ := x
      rw [hg] at hr
      refine am_exec_ok CX (hC _ (am_get_mem _ _ _ hg)) (fun pc' L' st' h' q => ?_) hr
      cases hk : am_get K pc' with
      | none =>
        rw [hk] at q
        exact am_run_ok CX hC hK n pc' L' st' h' q
      | some k =>
        rw [hk] at q
        exact hK pc' k hk L' st' h' q
end AMS
