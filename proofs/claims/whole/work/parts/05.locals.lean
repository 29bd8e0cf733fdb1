/-! THE REAL MACHINE DOES WHAT THE ABSTRACT ONE DOES -/
theorem am_get_mem {α : Type} : ∀ (C : List (Nat × α)) (k : Nat) (v : α), am_get C k = some v → (k, v) ∈ C
  | [], k, v, h => by cases h
  | (q, i) :: r, k, v, h => by
    unfold am_get at h
    cases e : Nat.beq q k with
    | true =>
      rw [e] at h
      cases h
      rw [Nat.eq_of_beq_eq_true e]
      exact List.mem_cons_self
    | false =>
      rw [e] at h
      exact List.mem_cons_of_mem _ (am_get_mem r k v h)
def am_un : AV := .inr (.inr (.inr ()))
def am_LR (G : AG) (nL : Nat) (ls : Array Slot) (L : List AV) : Prop := L.length = nL ∧ ls.size = nL ∧ lv_wf ls ∧ ∀ (i : Nat) (v : AV), am_nth L i = some v → v ≠ am_un → ls[i]? = some (.val (am_tr G v))
def am_lv (G : AG) : Nat → List AV → List (Nat × Value)
  | _, [] => []
  | k, v :: r => (match v with
    | .inr (.inr (.inr _)) => am_lv G (k + 1) r
    | v => (k, am_tr G v) :: am_lv G (k + 1) r)
theorem am_lv_mem (G : AG) : ∀ (L : List AV) (k : Nat) (q : Nat × Value), q ∈ am_lv G k L ↔ ∃ i v, am_nth L i = some v ∧ v ≠ am_un ∧ q = (k + i, am_tr G v)
  | [], k, q => by simp [am_lv, am_nth]
  | v :: r, k, q => by
    have ih := am_lv_mem G r (k + 1) q
    constructor
    · intro h
      have hor : (v ≠ am_un ∧ q = (k, am_tr G v)) ∨ q ∈ am_lv G (k + 1) r := by
        rcases v with x | x | x | x
        · rcases List.mem_cons.mp h with h | h
          · exact Or.inl ⟨(fun e => by cases e), h⟩
          · exact Or.inr h
        · rcases List.mem_cons.mp h with h | h
          · exact Or.inl ⟨(fun e => by cases e), h⟩
          · exact Or.inr h
        · rcases List.mem_cons.mp h with h | h
          · exact Or.inl ⟨(fun e => by cases e), h⟩
          · exact Or.inr h
        · exact Or.inr h
      rcases hor with ⟨h1, h2⟩ | h
      · exact ⟨0, v, rfl, h1, h2⟩
      · obtain ⟨i, w, h1, h2, h3⟩ := ih.mp h
        exact ⟨i + 1, w, h1, h2, by rw [h3]; congr 1; omega⟩
    · rintro ⟨i, w, h1, h2, h3⟩
      cases i with
      | zero =>
        cases h1
        rcases v with x | x | x | x
        · exact List.mem_cons.mpr (Or.inl h3)
        · exact List.mem_cons.mpr (Or.inl h3)
        · exact List.mem_cons.mpr (Or.inl h3)
        · exact absurd rfl h2
      | succ i =>
        have hm : q ∈ am_lv G (k + 1) r := ih.mpr ⟨i, w, h1, h2, by rw [h3]; congr 1; omega⟩
        rcases v with x | x | x | x
        · exact List.mem_cons_of_mem _ hm
        · exact List.mem_cons_of_mem _ hm
        · exact List.mem_cons_of_mem _ hm
        · exact hm
theorem am_LR.has {G : AG} {nL : Nat} {ls : Array Slot} {L : List AV} (h : am_LR G nL ls L) : lv_has ls nL (am_lv G 0 L) := by
  refine ⟨h.2.1, h.2.2.1, fun q hq => ?_⟩
  obtain ⟨i, v, h1, h2, h3⟩ := (am_lv_mem G L 0 q).mp hq
  rw [h3]
  show ls[0 + i]? = _
  rw [Nat.zero_add]
  exact h.2.2.2 i v h1 h2
theorem am_put_len : ∀ (L : List AV) (i : Nat) (x : AV), (am_put L i x).length = L.length
  | [], _, _ => rfl
  | _ :: r, 0, _ => rfl
  | _ :: r, n + 1, x => congrArg (· + 1) (am_put_len r n x)
theorem am_put_same : ∀ (L : List AV) (i : Nat) (x v : AV), am_nth (am_put L i x) i = some v → v = x
  | [], _, _, _, h => by cases h
  | _ :: r, 0, _, _, h => (Option.some.inj h).symm
  | _ :: r, n + 1, x, v, h => am_put_same r n x v h
theorem am_put_ne : ∀ (L : List AV) (i j : Nat) (x : AV), j ≠ i → am_nth (am_put L i x) j = am_nth L j
  | [], _, _, _, _ => rfl
  | _ :: r, 0, 0, _, h => absurd rfl h
  | _ :: r, 0, j + 1, _, _ => rfl
  | _ :: r, n + 1, 0, x, _ => rfl
  | _ :: r, n + 1, j + 1, x, h => am_put_ne r n j x (fun e => h (by rw [e]))
theorem am_half_nth : ∀ (L : List AV) (i : Nat) (v : AV), am_nth L i = some v → am_half L (i + 1) = am_isL v
  | [], _, _, h => by cases h
  | w :: r, 0, v, h => by
    cases h
    rfl
  | w :: r, n + 1, v, h => am_half_nth r n v h
theorem am_nth_mem : ∀ (L : List AV) (i : Nat) (v : AV), am_nth L i = some v → v ∈ L
  | [], _, _, h => by cases h
  | w :: r, 0, v, h => by
    cases h
    exact List.mem_cons_self
  | w :: r, n + 1, v, h => List.mem_cons_of_mem _ (am_nth_mem r n v h)
theorem am_put_mem : ∀ (L : List AV) (i : Nat) (x v : AV), v ∈ am_put L i x → v = x ∨ v ∈ L
  | [], _, _, _, h => by cases h
  | w :: r, 0, x, v, h => by
    rcases List.mem_cons.mp h with h | h
    · exact Or.inl h
    · exact Or.inr (List.mem_cons_of_mem _ h)
  | w :: r, n + 1, x, v, h => by
    rcases List.mem_cons.mp h with h | h
    · exact Or.inr (List.mem_cons.mpr (Or.inl h))
    · rcases am_put_mem r n x v h with h | h
      · exact Or.inl h
      · exact Or.inr (List.mem_cons_of_mem _ h)
theorem am_cat {G : AG} (hs : G.2.2.2.2.2.2.category = 1) (v : AV) : (am_tr G v).category = (match am_isL v with
    | true => 2
    | false => 1) := by
  rcases v with x | x | x | x
  · rfl
  · rfl
  · rfl
  · exact hs
theorem am_sz_eq {G : AG} (hs : G.2.2.2.2.2.2.category = 1) : ∀ (L : List AV), ((L.map (am_tr G)).map fun v => v.category).sum = am_sz L
  | [] => rfl
  | v :: r => by
    rw [List.map_cons, List.map_cons, List.sum_cons, am_sz_eq hs r, am_cat hs v]
    rfl
/-- a value of one slot is stored -/
theorem am_LR.st1 {G : AG} {nL : Nat} {ls ls' : Array Slot} {L : List AV} {i : Nat} {x : AV} (hs : G.2.2.2.2.2.2.category = 1) (h : am_LR G nL ls L) (hh : am_half L i = false)
    (h' : lv_has ls' nL ((i, am_tr G x) :: (am_lv G 0 L).filter (fun q => !(q.1 == i) && !(q.1 + 1 == i && q.2.category == 2)))) : am_LR G nL ls' (am_put L i x) := by
  refine ⟨by rw [am_put_len]; exact h.1, h'.1, h'.2.1, fun j v hj hv => ?_⟩
  by_cases e : j = i
  · subst e
    rw [am_put_same L j x v hj]
    exact h'.2.2 _ List.mem_cons_self
  · rw [am_put_ne L i j x e] at hj
    refine h'.2.2 (j, am_tr G v) (List.mem_cons_of_mem _ (List.mem_filter.mpr ⟨(am_lv_mem G L 0 _).mpr ⟨j, v, hj, hv, by rw [Nat.zero_add]⟩, ?_⟩))
    have h1 : (j == i) = false := by simpa using e
    have h2 : (j + 1 == i && (am_tr G v).category == 2) = false := by
      by_cases e2 : j + 1 = i
      · have h3 := am_half_nth L j v hj
        rw [e2, hh] at h3
        rw [am_cat hs v, ← h3]
        simp
      · simp [e2]
    simp only [h1, h2]
    rfl
theorem am_LR.st2 {G : AG} {nL : Nat} {ls ls' : Array Slot} {L : List AV} {i : Nat} {x : AV} (hs : G.2.2.2.2.2.2.category = 1) (h : am_LR G nL ls L) (hh : am_half L i = false)
    (h' : lv_has ls' nL ((i, am_tr G x) :: (am_lv G 0 L).filter (fun q => !(q.1 == i) && (!(q.1 == i + 1) && !(q.1 + 1 == i && q.2.category == 2))))) : am_LR G nL ls' (am_put (am_put L i x) (i + 1) am_un) := by
  refine ⟨by rw [am_put_len, am_put_len]; exact h.1, h'.1, h'.2.1, fun j v hj hv => ?_⟩
  by_cases e0 : j = i + 1
  · subst e0
    exact absurd (am_put_same _ _ _ _ hj) hv
  rw [am_put_ne _ _ _ _ e0] at hj
  by_cases e : j = i
  · subst e
    rw [am_put_same L j x v hj]
    exact h'.2.2 _ List.mem_cons_self
  · rw [am_put_ne L i j x e] at hj
    refine h'.2.2 (j, am_tr G v) (List.mem_cons_of_mem _ (List.mem_filter.mpr ⟨(am_lv_mem G L 0 _).mpr ⟨j, v, hj, hv, by rw [Nat.zero_add]⟩, ?_⟩))
    have h1 : (j == i) = false := by simpa using e
    have h0 : (j == i + 1) = false := by simpa using e0
    have h2 : (j + 1 == i && (am_tr G v).category == 2) = false := by
      by_cases e2 : j + 1 = i
      · have h3 := am_half_nth L j v hj
        rw [e2, hh] at h3
        rw [am_cat hs v, ← h3]
        simp
      · simp [e2]
    simp only [h0, h1, h2]
    rfl
/-- an int comes back cut to its type -/
theorem am_nret {p : Program} {l : Launch} {e : Env} {R : Room} {s : State} {m : MethodId} {args : Array Value} {below : List Frame} {meth : Method} {c : Code} {H : Heap} {locs : List Loc} {cells slots : Nat} {cc : ByteArray} {Qc : Array Value → State → Outcome → State → Prop} {free : Addr → Prop} {v w : Int32} {ty : FieldType} (hexec : p.tables.exec = Jvm.exec) (hb : c.code = cc) (hr : meth.sig.returnType = some ty) (hn : narrow ty (.int v) = .int w)
    (hq : ∀ t : State, t.heap = H → s.WarmedH t.vm → Qc args s (.returned (some (.int w))) t) (hf : ∀ q ∈ locs, free q.base)
    {pc : Nat} {ls : Array Slot} (hdg : decode cc pc = .ok (.ireturn, 1)) (hlocks : meth.locks = false) : W p l e R s m args below meth c H locs cells slots (MQ below Qc args s cells slots free) (F0 m pc ls [.int v]) := by
  intro T hT X
  obtain ⟨fs, hret, hrun, hended, hW, hframe⟩ := X.leave (v := some (.int w)) (fun h => by rw [hr] at h; cases h)
  have hmeth' : T.vm.method? m = some meth := X.method'
  refine ⟨T.setFrames fs, ?_, .returned (some (.int w)), hrun, hended, hq _ hT hW, locs, ⟨⟨_, rfl⟩, hW, hframe⟩, hf⟩
  jvm_step X.here [X.here.top, hexec, hb, hdg, hmeth', hr, hn]
  (try refine ⟨rfl, ?_⟩); (try refine ⟨rfl, ?_⟩)
  first | (intro acts; rw [hret _ acts rfl rfl rfl]) | rw [hret _ _ rfl rfl rfl]
  exact Steps.refl _
