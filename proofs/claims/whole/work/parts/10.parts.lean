/-! 10.parts -/
def C_X0_becomes : List AC := [(0, .aload_n 0, 1, []), (1, .aload_n 1, 2, []), (2, .getfield 15, 5, []), (5, .putfield 15, 8, []), (8, .aload_n 0, 9, []), (9, .aload_n 1, 10, []), (10, .getfield 18, 13, []), (13, .putfield 18, 16, []), (16, .aload_n 0, 17, []), (17, .aload_n 1, 18, []), (18, .getfield 21, 21, []), (21, .putfield 21, 24, []), (24, .aload_n 0, 25, []), (25, .aload_n 1, 26, []), (26, .getfield 24, 29, []), (29, .putfield 24, 32, []), (32, .aload_n 0, 33, []), (33, .aload_n 1, 34, []), (34, .getfield 9, 37, []), (37, .putfield 9, 40, []), (40, .aload_n 0, 41, []), (41, .aload_n 1, 42, []), (42, .getfield 27, 45, []), (45, .putfield 27, 48, []), (48, .return_, 49, [])]
theorem ok_X0_becomes : ∀ x ∈ C_X0_becomes, am_ok cX0_becomes 2 x = true := by decide +kernel
noncomputable def P_X0_becomes : AP := (PF_RX0, PK_RX0, PS_RX0, [], [], [])
noncomputable def f_X0_becomes (a1 : Nat) (a2 : Nat) (h : HP) : Option HP := some (h_wI (h_wI (h_wI (h_wI (h_wI (h_wI h 0 a1 0 (h_rI h 0 a2 0)) 0 a1 1 (h_rI (h_wI h 0 a1 0 (h_rI h 0 a2 0)) 0 a2 1)) 0 a1 2 (h_rI (h_wI (h_wI h 0 a1 0 (h_rI h 0 a2 0)) 0 a1 1 (h_rI (h_wI h 0 a1 0 (h_rI h 0 a2 0)) 0 a2 1)) 0 a2 2)) 0 a1 3 (h_rI (h_wI (h_wI (h_wI h 0 a1 0 (h_rI h 0 a2 0)) 0 a1 1 (h_rI (h_wI h 0 a1 0 (h_rI h 0 a2 0)) 0 a2 1)) 0 a1 2 (h_rI (h_wI (h_wI h 0 a1 0 (h_rI h 0 a2 0)) 0 a1 1 (h_rI (h_wI h 0 a1 0 (h_rI h 0 a2 0)) 0 a2 1)) 0 a2 2)) 0 a2 3)) 0 a1 4 (h_rI (h_wI (h_wI (h_wI (h_wI h 0 a1 0 (h_rI h 0 a2 0)) 0 a1 1 (h_rI (h_wI h 0 a1 0 (h_rI h 0 a2 0)) 0 a2 1)) 0 a1 2 (h_rI (h_wI (h_wI h 0 a1 0 (h_rI h 0 a2 0)) 0 a1 1 (h_rI (h_wI h 0 a1 0 (h_rI h 0 a2 0)) 0 a2 1)) 0 a2 2)) 0 a1 3 (h_rI (h_wI (h_wI (h_wI h 0 a1 0 (h_rI h 0 a2 0)) 0 a1 1 (h_rI (h_wI h 0 a1 0 (h_rI h 0 a2 0)) 0 a2 1)) 0 a1 2 (h_rI (h_wI (h_wI h 0 a1 0 (h_rI h 0 a2 0)) 0 a1 1 (h_rI (h_wI h 0 a1 0 (h_rI h 0 a2 0)) 0 a2 1)) 0 a2 2)) 0 a2 3)) 0 a2 4)) 0 a1 5 (h_rI (h_wI (h_wI (h_wI (h_wI (h_wI h 0 a1 0 (h_rI h 0 a2 0)) 0 a1 1 (h_rI (h_wI h 0 a1 0 (h_rI h 0 a2 0)) 0 a2 1)) 0 a1 2 (h_rI (h_wI (h_wI h 0 a1 0 (h_rI h 0 a2 0)) 0 a1 1 (h_rI (h_wI h 0 a1 0 (h_rI h 0 a2 0)) 0 a2 1)) 0 a2 2)) 0 a1 3 (h_rI (h_wI (h_wI (h_wI h 0 a1 0 (h_rI h 0 a2 0)) 0 a1 1 (h_rI (h_wI h 0 a1 0 (h_rI h 0 a2 0)) 0 a2 1)) 0 a1 2 (h_rI (h_wI (h_wI h 0 a1 0 (h_rI h 0 a2 0)) 0 a1 1 (h_rI (h_wI h 0 a1 0 (h_rI h 0 a2 0)) 0 a2 1)) 0 a2 2)) 0 a2 3)) 0 a1 4 (h_rI (h_wI (h_wI (h_wI (h_wI h 0 a1 0 (h_rI h 0 a2 0)) 0 a1 1 (h_rI (h_wI h 0 a1 0 (h_rI h 0 a2 0)) 0 a2 1)) 0 a1 2 (h_rI (h_wI (h_wI h 0 a1 0 (h_rI h 0 a2 0)) 0 a1 1 (h_rI (h_wI h 0 a1 0 (h_rI h 0 a2 0)) 0 a2 1)) 0 a2 2)) 0 a1 3 (h_rI (h_wI (h_wI (h_wI h 0 a1 0 (h_rI h 0 a2 0)) 0 a1 1 (h_rI (h_wI h 0 a1 0 (h_rI h 0 a2 0)) 0 a2 1)) 0 a1 2 (h_rI (h_wI (h_wI h 0 a1 0 (h_rI h 0 a2 0)) 0 a1 1 (h_rI (h_wI h 0 a1 0 (h_rI h 0 a2 0)) 0 a2 1)) 0 a2 2)) 0 a2 3)) 0 a2 4)) 0 a2 5))
noncomputable def fl_X0_becomes : List AV → HP → Option HP := fun as h => match as with
  | [.inr (.inr (.inl (0, a1))), .inr (.inr (.inl (0, a2)))] => f_X0_becomes a1 a2 h
  | _ => none
noncomputable def F_X0_becomes : AF := .inr (.inl fl_X0_becomes)
set_option maxRecDepth 20000 in
theorem b_X0_becomes (l : Launch) (G : AG) : am_B l G 2 cX0_becomes RX0 am_tb P_X0_becomes am_rV fl_X0_becomes := by
  intro p e R s m args below meth c cells slots Q CX as h r q
  unfold fl_X0_becomes at q
  split at q
  · exact am_run_ok CX ok_X0_becomes (K := []) (am_K0 (Wp := am_W p l e R s m args below meth c cells slots G 2 (Q r))) 28 0 _ _ _ q
  · cases q
theorem s_X0_becomes : ∀ as h x, fl_X0_becomes as h = some x → (∀ k, (some 0 : Option Nat) = some k → ∃ (j : Nat) (as' : List AV), as = .inr (.inr (.inl (k, j))) :: as') ∧ (am_l0 as).length ≤ 2 := by
  intro as h x q
  unfold fl_X0_becomes at q
  split at q
  · exact ⟨fun k e => by cases e; exact ⟨_, _, rfl⟩, Nat.le_of_ble_eq_true rfl⟩
  · cases q
theorem M_X0_becomes (l : Launch) (G : AG) : am_M l G yX0_becomes cX0_becomes 2 none 0 0 (some 0) F_X0_becomes := am_M_of (f := fl_X0_becomes) (toR := fun x => (none, x)) (P := P_X0_becomes) (Rr := am_rV) (own := RX0) (by decide) rfl (fun _ _ => rfl) s_X0_becomes am_wrV am_rkV pf_RX0 pk_RX0 ps_RX0 (fun _ q => by cases q) (fun _ q => by cases q) (fun _ q => by cases q) (b_X0_becomes l G)
def C_X0_isLent : List AC := [(0, .aload_n 0, 1, []), (1, .getfield 9, 4, []), (4, .iconst (-1), 5, []), (5, .if_icmp .eq 7, 8, [12]), (8, .iconst 1, 9, []), (9, .goto 4, 12, [13]), (12, .iconst 0, 13, []), (13, .ireturn, 14, [])]
theorem ok_X0_isLent : ∀ x ∈ C_X0_isLent, am_ok cX0_isLent 1 x = true := by decide +kernel
noncomputable def P_X0_isLent : AP := (PF_RX0, PK_RX0, PS_RX0, [], [], [])
noncomputable def f_X0_isLent (a1 : Nat) (h : HP) : Option (Int32 × HP) := if h_rI h 0 a1 4 = ((-1) : Int32) then (some (0, h)) else (some (1, h))
noncomputable def fl_X0_isLent : List AV → HP → Option (Int32 × HP) := fun as h => match as with
  | [.inr (.inr (.inl (0, a1)))] => f_X0_isLent a1 h
  | _ => none
noncomputable def F_X0_isLent : AF := .inl fl_X0_isLent
set_option maxRecDepth 20000 in
theorem b_X0_isLent (l : Launch) (G : AG) : am_B l G 1 cX0_isLent RX0 am_tb P_X0_isLent am_rZ fl_X0_isLent := by
  intro p e R s m args below meth c cells slots Q CX as h r q
  unfold fl_X0_isLent at q
  split at q
  · exact am_run_ok CX ok_X0_isLent (K := []) (am_K0 (Wp := am_W p l e R s m args below meth c cells slots G 1 (Q r))) 10 0 _ _ _ q
  · cases q
theorem s_X0_isLent : ∀ as h x, fl_X0_isLent as h = some x → (∀ k, (some 0 : Option Nat) = some k → ∃ (j : Nat) (as' : List AV), as = .inr (.inr (.inl (k, j))) :: as') ∧ (am_l0 as).length ≤ 1 := by
  intro as h x q
  unfold fl_X0_isLent at q
  split at q
  · exact ⟨fun k e => by cases e; exact ⟨_, _, rfl⟩, Nat.le_of_ble_eq_true rfl⟩
  · cases q
theorem M_X0_isLent (l : Launch) (G : AG) : am_M l G yX0_isLent cX0_isLent 1 (some .boolean) 0 0 (some 0) F_X0_isLent := am_M_of (f := fl_X0_isLent) (toR := fun x => (some (.inl x.1), x.2)) (P := P_X0_isLent) (Rr := am_rZ) (own := RX0) (by decide) rfl (fun _ _ => rfl) s_X0_isLent am_wrI am_rkZ pf_RX0 pk_RX0 ps_RX0 (fun _ q => by cases q) (fun _ q => by cases q) (fun _ q => by cases q) (b_X0_isLent l G)
def C_X0_isLate : List AC := [(0, .aload_n 0, 1, []), (1, .getfield 9, 4, []), (4, .iconst (-1), 5, []), (5, .if_icmp .eq 15, 8, [20]), (8, .aload_n 0, 9, []), (9, .getfield 27, 12, []), (12, .iload_n 1, 13, []), (13, .if_icmp .le 7, 16, [20]), (16, .iconst 1, 17, []), (17, .goto 4, 20, [21]), (20, .iconst 0, 21, []), (21, .ireturn, 22, [])]
theorem ok_X0_isLate : ∀ x ∈ C_X0_isLate, am_ok cX0_isLate 2 x = true := by decide +kernel
noncomputable def P_X0_isLate : AP := (PF_RX0, PK_RX0, PS_RX0, [], [], [])
noncomputable def f_X0_isLate (a1 : Nat) (a2 : Int32) (h : HP) : Option (Int32 × HP) := if h_rI h 0 a1 4 = ((-1) : Int32) then (some (0, h)) else (if h_rI h 0 a1 5 ≤ a2 then (some (0, h)) else (some (1, h)))
noncomputable def fl_X0_isLate : List AV → HP → Option (Int32 × HP) := fun as h => match as with
  | [.inr (.inr (.inl (0, a1))), .inl a2] => f_X0_isLate a1 a2 h
  | _ => none
noncomputable def F_X0_isLate : AF := .inl fl_X0_isLate
set_option maxRecDepth 20000 in
theorem b_X0_isLate (l : Launch) (G : AG) : am_B l G 2 cX0_isLate RX0 am_tb P_X0_isLate am_rZ fl_X0_isLate := by
  intro p e R s m args below meth c cells slots Q CX as h r q
  unfold fl_X0_isLate at q
  split at q
  · exact am_run_ok CX ok_X0_isLate (K := []) (am_K0 (Wp := am_W p l e R s m args below meth c cells slots G 2 (Q r))) 14 0 _ _ _ q
  · cases q
theorem s_X0_isLate : ∀ as h x, fl_X0_isLate as h = some x → (∀ k, (some 0 : Option Nat) = some k → ∃ (j : Nat) (as' : List AV), as = .inr (.inr (.inl (k, j))) :: as') ∧ (am_l0 as).length ≤ 2 := by
  intro as h x q
  unfold fl_X0_isLate at q
  split at q
  · exact ⟨fun k e => by cases e; exact ⟨_, _, rfl⟩, Nat.le_of_ble_eq_true rfl⟩
  · cases q
theorem M_X0_isLate (l : Launch) (G : AG) : am_M l G yX0_isLate cX0_isLate 2 (some .boolean) 0 0 (some 0) F_X0_isLate := am_M_of (f := fl_X0_isLate) (toR := fun x => (some (.inl x.1), x.2)) (P := P_X0_isLate) (Rr := am_rZ) (own := RX0) (by decide) rfl (fun _ _ => rfl) s_X0_isLate am_wrI am_rkZ pf_RX0 pk_RX0 ps_RX0 (fun _ q => by cases q) (fun _ q => by cases q) (fun _ q => by cases q) (b_X0_isLate l G)
def C_X0_isOfKind : List AC := [(0, .iload_n 1, 1, []), (1, .tableswitch 73 0 2 #[27, 29, 51], 28, [74, 28, 30, 52]), (28, .iconst 1, 29, []), (29, .ireturn, 30, []), (30, .aload_n 0, 31, []), (31, .getfield 15, 34, []), (34, .iconst 1, 35, []), (35, .if_icmp .eq 11, 38, [46]), (38, .aload_n 0, 39, []), (39, .getfield 15, 42, []), (42, .iconst 4, 43, []), (43, .if_icmp .ne 7, 46, [50]), (46, .iconst 1, 47, []), (47, .goto 4, 50, [51]), (50, .iconst 0, 51, []), (51, .ireturn, 52, []), (52, .aload_n 0, 53, []), (53, .getfield 15, 56, []), (56, .iconst 2, 57, []), (57, .if_icmp .eq 11, 60, [68]), (60, .aload_n 0, 61, []), (61, .getfield 15, 64, []), (64, .iconst 5, 65, []), (65, .if_icmp .ne 7, 68, [72]), (68, .iconst 1, 69, []), (69, .goto 4, 72, [73]), (72, .iconst 0, 73, []), (73, .ireturn, 74, []), (74, .aload_n 0, 75, []), (75, .getfield 15, 78, []), (78, .iload_n 1, 79, []), (79, .if_icmp .ne 7, 82, [86]), (82, .iconst 1, 83, []), (83, .goto 4, 86, [87]), (86, .iconst 0, 87, []), (87, .ireturn, 88, [])]
theorem ok_X0_isOfKind : ∀ x ∈ C_X0_isOfKind, am_ok cX0_isOfKind 2 x = true := by decide +kernel
noncomputable def P_X0_isOfKind : AP := (PF_RX0, PK_RX0, PS_RX0, [], [], [])
noncomputable def f_X0_isOfKind (a1 : Nat) (a2 : Int32) (h : HP) : Option (Int32 × HP) := if a2 = 0 then (some (1, h)) else (if a2 = 1 then (if h_rI h 0 a1 0 = (1 : Int32) then (some (1, h)) else (if h_rI h 0 a1 0 = (4 : Int32) then (some (1, h)) else (some (0, h)))) else (if a2 = 2 then (if h_rI h 0 a1 0 = (2 : Int32) then (some (1, h)) else (if h_rI h 0 a1 0 = (5 : Int32) then (some (1, h)) else (some (0, h)))) else (if h_rI h 0 a1 0 = a2 then (some (1, h)) else (some (0, h)))))
noncomputable def fl_X0_isOfKind : List AV → HP → Option (Int32 × HP) := fun as h => match as with
  | [.inr (.inr (.inl (0, a1))), .inl a2] => f_X0_isOfKind a1 a2 h
  | _ => none
noncomputable def F_X0_isOfKind : AF := .inl fl_X0_isOfKind
set_option maxRecDepth 20000 in
theorem b_X0_isOfKind (l : Launch) (G : AG) : am_B l G 2 cX0_isOfKind RX0 am_tb P_X0_isOfKind am_rZ fl_X0_isOfKind := by
  intro p e R s m args below meth c cells slots Q CX as h r q
  unfold fl_X0_isOfKind at q
  split at q
  · exact am_run_ok CX ok_X0_isOfKind (K := []) (am_K0 (Wp := am_W p l e R s m args below meth c cells slots G 2 (Q r))) 16 0 _ _ _ q
  · cases q
theorem s_X0_isOfKind : ∀ as h x, fl_X0_isOfKind as h = some x → (∀ k, (some 0 : Option Nat) = some k → ∃ (j : Nat) (as' : List AV), as = .inr (.inr (.inl (k, j))) :: as') ∧ (am_l0 as).length ≤ 2 := by
  intro as h x q
  unfold fl_X0_isOfKind at q
  split at q
  · exact ⟨fun k e => by cases e; exact ⟨_, _, rfl⟩, Nat.le_of_ble_eq_true rfl⟩
  · cases q
theorem M_X0_isOfKind (l : Launch) (G : AG) : am_M l G yX0_isOfKind cX0_isOfKind 2 (some .boolean) 0 0 (some 0) F_X0_isOfKind := am_M_of (f := fl_X0_isOfKind) (toR := fun x => (some (.inl x.1), x.2)) (P := P_X0_isOfKind) (Rr := am_rZ) (own := RX0) (by decide) rfl (fun _ _ => rfl) s_X0_isOfKind am_wrI am_rkZ pf_RX0 pk_RX0 ps_RX0 (fun _ q => by cases q) (fun _ q => by cases q) (fun _ q => by cases q) (b_X0_isOfKind l G)
def C_X0_isPairOf : List AC := [(0, .aload_n 0, 1, []), (1, .getfield 18, 4, []), (4, .aload_n 1, 5, []), (5, .getfield 18, 8, []), (8, .if_icmp .ne 14, 11, [22]), (11, .aload_n 0, 12, []), (12, .getfield 21, 15, []), (15, .aload_n 1, 16, []), (16, .getfield 21, 19, []), (19, .if_icmp .eq 25, 22, [44]), (22, .aload_n 0, 23, []), (23, .getfield 18, 26, []), (26, .aload_n 1, 27, []), (27, .getfield 21, 30, []), (30, .if_icmp .ne 18, 33, [48]), (33, .aload_n 0, 34, []), (34, .getfield 21, 37, []), (37, .aload_n 1, 38, []), (38, .getfield 18, 41, []), (41, .if_icmp .ne 7, 44, [48]), (44, .iconst 1, 45, []), (45, .goto 4, 48, [49]), (48, .iconst 0, 49, []), (49, .ireturn, 50, [])]
theorem ok_X0_isPairOf : ∀ x ∈ C_X0_isPairOf, am_ok cX0_isPairOf 2 x = true := by decide +kernel
noncomputable def P_X0_isPairOf : AP := (PF_RX0, PK_RX0, PS_RX0, [], [], [])
noncomputable def g_X0_isPairOf_22 (a1 : Nat) (a2 : Nat) (h : HP) : Option (Int32 × HP) := if h_rI h 0 a1 1 = h_rI h 0 a2 2 then (if h_rI h 0 a1 2 = h_rI h 0 a2 1 then (some (1, h)) else (some (0, h))) else (some (0, h))
def pk_X0_isPairOf_22 (k : Nat → Nat → HP → Option (Int32 × HP)) : List AV → List AV → HP → Option (Int32 × HP) := fun L st h => match L, st with
  | [.inr (.inr (.inl (0, a1))), .inr (.inr (.inl (0, a2)))], [] => k a1 a2 h
  | _, _ => none
theorem pk_X0_isPairOf_22_ok {Wp : List AV → List AV → HP → Prop} {r : (Int32 × HP)} {k : Nat → Nat → HP → Option (Int32 × HP)} (hk : ∀ (a1 : Nat) (a2 : Nat) (h : HP), k a1 a2 h = some r → Wp [.inr (.inr (.inl (0, a1))), .inr (.inr (.inl (0, a2)))] [] h) : ∀ L st h, pk_X0_isPairOf_22 k L st h = some r → Wp L st h := by
  intro L st h q
  unfold pk_X0_isPairOf_22 at q
  split at q
  · exact hk _ _ _ q
  · cases q
noncomputable def f_X0_isPairOf (a1 : Nat) (a2 : Nat) (h : HP) : Option (Int32 × HP) := if h_rI h 0 a1 1 = h_rI h 0 a2 1 then (if h_rI h 0 a1 2 = h_rI h 0 a2 2 then (some (1, h)) else (g_X0_isPairOf_22 a1 a2 h)) else (g_X0_isPairOf_22 a1 a2 h)
noncomputable def fl_X0_isPairOf : List AV → HP → Option (Int32 × HP) := fun as h => match as with
  | [.inr (.inr (.inl (0, a1))), .inr (.inr (.inl (0, a2)))] => f_X0_isPairOf a1 a2 h
  | _ => none
noncomputable def F_X0_isPairOf : AF := .inl fl_X0_isPairOf
set_option maxRecDepth 20000 in
theorem w_X0_isPairOf_22 {p : Program} {l : Launch} {e : Env} {R : Room} {s : State} {m : MethodId} {args : Array Value} {below : List Frame} {meth : Method} {c : Code} {cells slots : Nat} {G : AG} {Q : (Int32 × HP) → State → Prop} (CX : am_X p l e R s m args below meth c cells slots G 2 cX0_isPairOf RX0 am_tb P_X0_isPairOf am_rZ Q) {r : (Int32 × HP)} : ∀ (a1 : Nat) (a2 : Nat) (h : HP), g_X0_isPairOf_22 a1 a2 h = some r → am_W p l e R s m args below meth c cells slots G 2 (Q r) 22 [.inr (.inr (.inl (0, a1))), .inr (.inr (.inl (0, a2)))] [] h := by
  intro a1 a2 h q
  exact am_run_ok CX ok_X0_isPairOf (K := []) (am_K0 (Wp := am_W p l e R s m args below meth c cells slots G 2 (Q r))) 16 22 _ _ _ q
set_option maxRecDepth 20000 in
theorem b_X0_isPairOf (l : Launch) (G : AG) : am_B l G 2 cX0_isPairOf RX0 am_tb P_X0_isPairOf am_rZ fl_X0_isPairOf := by
  intro p e R s m args below meth c cells slots Q CX as h r q
  unfold fl_X0_isPairOf at q
  split at q
  · exact am_run_ok CX ok_X0_isPairOf (K := [(22, pk_X0_isPairOf_22 (g_X0_isPairOf_22))]) (am_K1 (Wp := am_W p l e R s m args below meth c cells slots G 2 (Q r)) (pk_X0_isPairOf_22_ok (Wp := am_W p l e R s m args below meth c cells slots G 2 (Q r) 22) (w_X0_isPairOf_22 CX)) am_K0) 16 0 _ _ _ q
  · cases q
theorem s_X0_isPairOf : ∀ as h x, fl_X0_isPairOf as h = some x → (∀ k, (some 0 : Option Nat) = some k → ∃ (j : Nat) (as' : List AV), as = .inr (.inr (.inl (k, j))) :: as') ∧ (am_l0 as).length ≤ 2 := by
  intro as h x q
  unfold fl_X0_isPairOf at q
  split at q
  · exact ⟨fun k e => by cases e; exact ⟨_, _, rfl⟩, Nat.le_of_ble_eq_true rfl⟩
  · cases q
theorem M_X0_isPairOf (l : Launch) (G : AG) : am_M l G yX0_isPairOf cX0_isPairOf 2 (some .boolean) 0 0 (some 0) F_X0_isPairOf := am_M_of (f := fl_X0_isPairOf) (toR := fun x => (some (.inl x.1), x.2)) (P := P_X0_isPairOf) (Rr := am_rZ) (own := RX0) (by decide) rfl (fun _ _ => rfl) s_X0_isPairOf am_wrI am_rkZ pf_RX0 pk_RX0 ps_RX0 (fun _ q => by cases q) (fun _ q => by cases q) (fun _ q => by cases q) (b_X0_isPairOf l G)
theorem cv_RX0_30 (l : Launch) (G : AG) {fr lo : Nat} (h1 : 0 + 1 ≤ fr) (h2 : 8 + (2 + 11) + 0 ≤ lo) : am_cvOK l G RX0 fr lo (30, 2, F_X0_isLate) := ⟨yX0_isLate, cX0_isLate, 2, (some .boolean), 0, 0, 0, RX0, M_X0_isLate l G, ⟨(am_tb_mem (wd_5 _ (List.mem_of_getElem? (i := 7) rfl))), (am_tb_mem (wd_5 _ (List.mem_of_getElem? (i := 0) rfl))), (am_tb_mem (wd_5 _ (List.mem_of_getElem? (i := 1) rfl))), (am_tb_mem (wd_1 _ (List.mem_of_getElem? (i := 21) rfl))), (am_tb_mem (wd_5 _ (List.mem_of_getElem? (i := 2) rfl)))⟩, ⟨rfl, by decide, by decide, by decide +kernel⟩, Or.inl ⟨by decide, rfl⟩, h1, h2⟩
def C_X0_end : List AC := [(0, .aload_n 0, 1, []), (1, .iload_n 1, 2, []), (2, .invokevirtual 30, 5, []), (5, .ifCond .eq 12, 8, [17]), (8, .aload_n 0, 9, []), (9, .getfield 27, 12, []), (12, .iload_n 1, 13, []), (13, .isub, 14, []), (14, .goto 4, 17, [18]), (17, .iconst 0, 18, []), (18, .istore_n 2, 19, []), (19, .aload_n 0, 20, []), (20, .getfield 15, 23, []), (23, .tableswitch 46 2 5 #[29, 46, 41, 29], 52, [69, 52, 69, 64, 52]), (52, .aload_n 0, 53, []), (53, .getfield 21, 56, []), (56, .iconst 2, 57, []), (57, .iload_n 2, 58, []), (58, .imul, 59, []), (59, .iadd, 60, []), (60, .bipush 16, 62, []), (62, .irem, 63, []), (63, .ireturn, 64, []), (64, .aload_n 0, 65, []), (65, .getfield 21, 68, []), (68, .ireturn, 69, []), (69, .aload_n 0, 70, []), (70, .getfield 21, 73, []), (73, .iload_n 2, 74, []), (74, .iadd, 75, []), (75, .bipush 16, 77, []), (77, .irem, 78, []), (78, .ireturn, 79, [])]
theorem ok_X0_end : ∀ x ∈ C_X0_end, am_ok cX0_end 3 x = true := by decide +kernel
noncomputable def P_X0_end : AP := (PF_RX0, PK_RX0, PS_RX0, [(30, 2, F_X0_isLate)], [], [])
noncomputable def g_X0_end_18 (a1 : Nat) (a2 : Int32) (h : HP) : Option (Int32 × HP) := if h_rI h 0 a1 0 = 2 then (some (((h_rI h 0 a1 2) + (2 * a2)) - ((h_rI h 0 a1 2) + (2 * a2)) / 16 * 16, h)) else (if h_rI h 0 a1 0 = 3 then (some (((h_rI h 0 a1 2) + a2) - ((h_rI h 0 a1 2) + a2) / 16 * 16, h)) else (if h_rI h 0 a1 0 = 4 then (some (h_rI h 0 a1 2, h)) else (if h_rI h 0 a1 0 = 5 then (some (((h_rI h 0 a1 2) + (2 * a2)) - ((h_rI h 0 a1 2) + (2 * a2)) / 16 * 16, h)) else (some (((h_rI h 0 a1 2) + a2) - ((h_rI h 0 a1 2) + a2) / 16 * 16, h)))))
def pk_X0_end_18 (k : Nat → Int32 → HP → Option (Int32 × HP)) : List AV → List AV → HP → Option (Int32 × HP) := fun L st h => match L, st with
  | [.inr (.inr (.inl (0, a1))), .inl _, .inr (.inr (.inr ()))], [.inl a2] => k a1 a2 h
  | _, _ => none
theorem pk_X0_end_18_ok {Wp : List AV → List AV → HP → Prop} {r : (Int32 × HP)} {k : Nat → Int32 → HP → Option (Int32 × HP)} (hk : ∀ (a1 : Nat) (a2 : Int32) (w1 : Int32) (h : HP), k a1 a2 h = some r → Wp [.inr (.inr (.inl (0, a1))), .inl w1, .inr (.inr (.inr ()))] [.inl a2] h) : ∀ L st h, pk_X0_end_18 k L st h = some r → Wp L st h := by
  intro L st h q
  unfold pk_X0_end_18 at q
  split at q
  · exact hk _ _ _ _ q
  · cases q
noncomputable def f_X0_end (a1 : Nat) (a2 : Int32) (h : HP) : Option (Int32 × HP) := (f_X0_isLate a1 a2 h).bind (fun q_1 => if q_1.1 = (0 : Int32) then (g_X0_end_18 a1 0 q_1.2) else (g_X0_end_18 a1 ((h_rI q_1.2 0 a1 5) - a2) q_1.2))
noncomputable def fl_X0_end : List AV → HP → Option (Int32 × HP) := fun as h => match as with
  | [.inr (.inr (.inl (0, a1))), .inl a2] => f_X0_end a1 a2 h
  | _ => none
noncomputable def F_X0_end : AF := .inl fl_X0_end
set_option maxRecDepth 20000 in
theorem w_X0_end_18 {p : Program} {l : Launch} {e : Env} {R : Room} {s : State} {m : MethodId} {args : Array Value} {below : List Frame} {meth : Method} {c : Code} {cells slots : Nat} {G : AG} {Q : (Int32 × HP) → State → Prop} (CX : am_X p l e R s m args below meth c cells slots G 3 cX0_end RX0 am_tb P_X0_end am_rI Q) {r : (Int32 × HP)} : ∀ (a1 : Nat) (a2 : Int32) (w1 : Int32) (h : HP), g_X0_end_18 a1 a2 h = some r → am_W p l e R s m args below meth c cells slots G 3 (Q r) 18 [.inr (.inr (.inl (0, a1))), .inl w1, .inr (.inr (.inr ()))] [.inl a2] h := by
  intro a1 a2 w1 h q
  exact am_run_ok CX ok_X0_end (K := []) (am_K0 (Wp := am_W p l e R s m args below meth c cells slots G 3 (Q r))) 16 18 _ _ _ q
set_option maxRecDepth 20000 in
theorem b_X0_end (l : Launch) (G : AG) : am_B l G 3 cX0_end RX0 am_tb P_X0_end am_rI fl_X0_end := by
  intro p e R s m args below meth c cells slots Q CX as h r q
  unfold fl_X0_end at q
  split at q
  · exact am_run_ok CX ok_X0_end (K := [(18, pk_X0_end_18 (g_X0_end_18))]) (am_K1 (Wp := am_W p l e R s m args below meth c cells slots G 3 (Q r)) (pk_X0_end_18_ok (Wp := am_W p l e R s m args below meth c cells slots G 3 (Q r) 18) (w_X0_end_18 CX)) am_K0) 12 0 _ _ _ q
  · cases q
theorem s_X0_end : ∀ as h x, fl_X0_end as h = some x → (∀ k, (some 0 : Option Nat) = some k → ∃ (j : Nat) (as' : List AV), as = .inr (.inr (.inl (k, j))) :: as') ∧ (am_l0 as).length ≤ 3 := by
  intro as h x q
  unfold fl_X0_end at q
  split at q
  · exact ⟨fun k e => by cases e; exact ⟨_, _, rfl⟩, Nat.le_of_ble_eq_true rfl⟩
  · cases q
theorem M_X0_end (l : Launch) (G : AG) : am_M l G yX0_end cX0_end 3 (some .int) 1 21 (some 0) F_X0_end := am_M_of (f := fl_X0_end) (toR := fun x => (some (.inl x.1), x.2)) (P := P_X0_end) (Rr := am_rI) (own := RX0) (by decide) rfl (fun _ _ => rfl) s_X0_end am_wrI am_rkI pf_RX0 pk_RX0 ps_RX0 (List.forall_mem_cons.mpr ⟨cv_RX0_30 l G (by decide) (by decide), (fun _ q => by cases q)⟩) (fun _ q => by cases q) (fun _ q => by cases q) (b_X0_end l G)
def C_X0_isOpposite : List AC := [(0, .iload_n 1, 1, []), (1, .aload_n 0, 2, []), (2, .getfield 18, 5, []), (5, .bipush 8, 7, []), (7, .iadd, 8, []), (8, .bipush 16, 10, []), (10, .irem, 11, []), (11, .if_icmp .ne 7, 14, [18]), (14, .iconst 1, 15, []), (15, .goto 4, 18, [19]), (18, .iconst 0, 19, []), (19, .ireturn, 20, [])]
theorem ok_X0_isOpposite : ∀ x ∈ C_X0_isOpposite, am_ok cX0_isOpposite 2 x = true := by decide +kernel
noncomputable def P_X0_isOpposite : AP := (PF_RX0, PK_RX0, PS_RX0, [], [], [])
noncomputable def f_X0_isOpposite (a1 : Nat) (a2 : Int32) (h : HP) : Option (Int32 × HP) := if a2 = ((h_rI h 0 a1 1) + 8) - ((h_rI h 0 a1 1) + 8) / 16 * 16 then (some (1, h)) else (some (0, h))
noncomputable def fl_X0_isOpposite : List AV → HP → Option (Int32 × HP) := fun as h => match as with
  | [.inr (.inr (.inl (0, a1))), .inl a2] => f_X0_isOpposite a1 a2 h
  | _ => none
noncomputable def F_X0_isOpposite : AF := .inl fl_X0_isOpposite
set_option maxRecDepth 20000 in
theorem b_X0_isOpposite (l : Launch) (G : AG) : am_B l G 2 cX0_isOpposite RX0 am_tb P_X0_isOpposite am_rZ fl_X0_isOpposite := by
  intro p e R s m args below meth c cells slots Q CX as h r q
  unfold fl_X0_isOpposite at q
  split at q
  · exact am_run_ok CX ok_X0_isOpposite (K := []) (am_K0 (Wp := am_W p l e R s m args below meth c cells slots G 2 (Q r))) 14 0 _ _ _ q
  · cases q
theorem s_X0_isOpposite : ∀ as h x, fl_X0_isOpposite as h = some x → (∀ k, (some 0 : Option Nat) = some k → ∃ (j : Nat) (as' : List AV), as = .inr (.inr (.inl (k, j))) :: as') ∧ (am_l0 as).length ≤ 2 := by
  intro as h x q
  unfold fl_X0_isOpposite at q
  split at q
  · exact ⟨fun k e => by cases e; exact ⟨_, _, rfl⟩, Nat.le_of_ble_eq_true rfl⟩
  · cases q
theorem M_X0_isOpposite (l : Launch) (G : AG) : am_M l G yX0_isOpposite cX0_isOpposite 2 (some .boolean) 0 0 (some 0) F_X0_isOpposite := am_M_of (f := fl_X0_isOpposite) (toR := fun x => (some (.inl x.1), x.2)) (P := P_X0_isOpposite) (Rr := am_rZ) (own := RX0) (by decide) rfl (fun _ _ => rfl) s_X0_isOpposite am_wrI am_rkZ pf_RX0 pk_RX0 ps_RX0 (fun _ q => by cases q) (fun _ q => by cases q) (fun _ q => by cases q) (b_X0_isOpposite l G)
theorem cv_RX0_34 (l : Launch) (G : AG) {fr lo : Nat} (h1 : 1 + 1 ≤ fr) (h2 : 8 + (3 + 11) + 21 ≤ lo) : am_cvOK l G RX0 fr lo (34, 2, F_X0_end) := ⟨yX0_end, cX0_end, 3, (some .int), 1, 21, 0, RX0, M_X0_end l G, ⟨(am_tb_mem (wd_6 _ (List.mem_of_getElem? (i := 4) rfl))), (am_tb_mem (wd_5 _ (List.mem_of_getElem? (i := 4) rfl))), (am_tb_mem (wd_5 _ (List.mem_of_getElem? (i := 5) rfl))), (am_tb_mem (wd_1 _ (List.mem_of_getElem? (i := 21) rfl))), (am_tb_mem (wd_5 _ (List.mem_of_getElem? (i := 6) rfl)))⟩, ⟨rfl, by decide, by decide, by decide +kernel⟩, Or.inl ⟨by decide, rfl⟩, h1, h2⟩
theorem cv_RX0_38 (l : Launch) (G : AG) {fr lo : Nat} (h1 : 0 + 1 ≤ fr) (h2 : 8 + (2 + 11) + 0 ≤ lo) : am_cvOK l G RX0 fr lo (38, 2, F_X0_isOpposite) := ⟨yX0_isOpposite, cX0_isOpposite, 2, (some .boolean), 0, 0, 0, RX0, M_X0_isOpposite l G, ⟨(am_tb_mem (wd_6 _ (List.mem_of_getElem? (i := 5) rfl))), (am_tb_mem (wd_6 _ (List.mem_of_getElem? (i := 6) rfl))), (am_tb_mem (wd_0 _ (List.mem_of_getElem? (i := 1) rfl))), (am_tb_mem (wd_1 _ (List.mem_of_getElem? (i := 21) rfl))), (am_tb_mem (wd_6 _ (List.mem_of_getElem? (i := 7) rfl)))⟩, ⟨rfl, by decide, by decide, by decide +kernel⟩, Or.inl ⟨by decide, rfl⟩, h1, h2⟩
def C_X0_opensIn : List AC := [(0, .iload_n 1, 1, []), (1, .aload_n 0, 2, []), (2, .getfield 18, 5, []), (5, .if_icmp .ne 7, 8, [12]), (8, .iconst 1, 9, []), (9, .goto 4, 12, [13]), (12, .iconst 0, 13, []), (13, .istore 4, 15, []), (15, .iload_n 1, 16, []), (16, .aload_n 0, 17, []), (17, .iload_n 3, 18, []), (18, .invokevirtual 34, 21, []), (21, .if_icmp .ne 7, 24, [28]), (24, .iconst 1, 25, []), (25, .goto 4, 28, [29]), (28, .iconst 0, 29, []), (29, .istore 5, 31, []), (31, .iload 4, 33, []), (33, .ifCond .ne 8, 36, [41]), (36, .iload 5, 38, []), (38, .ifCond .eq 16, 41, [54]), (41, .aload_n 0, 42, []), (42, .getfield 24, 45, []), (45, .bipush 99, 47, []), (47, .if_icmp .ge 7, 50, [54]), (50, .iconst 1, 51, []), (51, .goto 4, 54, [55]), (54, .iconst 0, 55, []), (55, .istore 6, 57, []), (57, .iload 6, 59, []), (59, .ifCond .eq 16, 62, [75]), (62, .aload_n 0, 63, []), (63, .getfield 24, 66, []), (66, .bipush 50, 68, []), (68, .if_icmp .ge 7, 71, [75]), (71, .iconst 1, 72, []), (72, .goto 4, 75, [76]), (75, .iconst 0, 76, []), (76, .istore 7, 78, []), (78, .iload 6, 80, []), (80, .ifCond .eq 12, 83, [92]), (83, .iload 4, 85, []), (85, .ifCond .eq 7, 88, [92]), (88, .iconst 1, 89, []), (89, .goto 4, 92, [93]), (92, .iconst 0, 93, []), (93, .istore 8, 95, []), (95, .aload_n 0, 96, []), (96, .getfield 15, 99, []), (99, .tableswitch 122 1 5 #[33, 36, 39, 61, 89], 132, [221, 132, 135, 138, 160, 188]), (132, .iload 7, 134, []), (134, .ireturn, 135, []), (135, .iload 8, 137, []), (137, .ireturn, 138, []), (138, .iload 6, 140, []), (140, .ifCond .eq 18, 143, [158]), (143, .iload 4, 145, []), (145, .ifCond .ne 9, 148, [154]), (148, .iload_n 2, 149, []), (149, .iconst 2, 150, []), (150, .irem, 151, []), (151, .ifCond .ne 7, 154, [158]), (154, .iconst 1, 155, []), (155, .goto 4, 158, [159]), (158, .iconst 0, 159, []), (159, .ireturn, 160, []), (160, .iload 7, 162, []), (162, .ifCond .ne 20, 165, [182]), (165, .aload_n 0, 166, []), (166, .iload_n 1, 167, []), (167, .invokevirtual 38, 170, []), (170, .ifCond .eq 16, 173, [186]), (173, .aload_n 0, 174, []), (174, .getfield 24, 177, []), (177, .bipush 10, 179, []), (179, .if_icmp .ge 7, 182, [186]), (182, .iconst 1, 183, []), (183, .goto 4, 186, [187]), (186, .iconst 0, 187, []), (187, .ireturn, 188, []), (188, .iload 8, 190, []), (190, .ifCond .ne 25, 193, [215]), (193, .iload 5, 195, []), (195, .ifCond .eq 24, 198, [219]), (198, .aload_n 0, 199, []), (199, .iload_n 3, 200, []), (200, .invokevirtual 30, 203, []), (203, .ifCond .eq 16, 206, [219]), (206, .aload_n 0, 207, []), (207, .getfield 24, 210, []), (210, .bipush 99, 212, []), (212, .if_icmp .ge 7, 215, [219]), (215, .iconst 1, 216, []), (216, .goto 4, 219, [220]), (219, .iconst 0, 220, []), (220, .ireturn, 221, []), (221, .iload 6, 223, []), (223, .ireturn, 224, [])]
theorem ok_X0_opensIn : ∀ x ∈ C_X0_opensIn, am_ok cX0_opensIn 9 x = true := by decide +kernel
noncomputable def P_X0_opensIn : AP := (PF_RX0, PK_RX0, PS_RX0, [(30, 2, F_X0_isLate), (34, 2, F_X0_end), (38, 2, F_X0_isOpposite)], [], [])
noncomputable def g_X0_opensIn_93 (a1 : Nat) (a2 : Int32) (a3 : Int32) (a4 : Int32) (a5 : Int32) (a6 : Int32) (a7 : Int32) (a8 : Int32) (a9 : Int32) (h : HP) : Option (Int32 × HP) := if h_rI h 0 a1 0 = 1 then (some (a8 &&& 1, h)) else (if h_rI h 0 a1 0 = 2 then (some (a9 &&& 1, h)) else (if h_rI h 0 a1 0 = 3 then (if a7 = (0 : Int32) then (some (0, h)) else (if a5 = (0 : Int32) then (if a3 - a3 / 2 * 2 = (0 : Int32) then (some (1, h)) else (some (0, h))) else (some (1, h)))) else (if h_rI h 0 a1 0 = 4 then (if a8 = (0 : Int32) then ((f_X0_isOpposite a1 a2 h).bind (fun q_1 => if q_1.1 = (0 : Int32) then (some (0, q_1.2)) else (if (10 : Int32) ≤ h_rI q_1.2 0 a1 3 then (some (0, q_1.2)) else (some (1, q_1.2))))) else (some (1, h))) else (if h_rI h 0 a1 0 = 5 then (if a9 = (0 : Int32) then (if a6 = (0 : Int32) then (some (0, h)) else ((f_X0_isLate a1 a4 h).bind (fun q_2 => if q_2.1 = (0 : Int32) then (some (0, q_2.2)) else (if (99 : Int32) ≤ h_rI q_2.2 0 a1 3 then (some (0, q_2.2)) else (some (1, q_2.2)))))) else (some (1, h))) else (some (a7 &&& 1, h))))))
def pk_X0_opensIn_93 (k : Nat → Int32 → Int32 → Int32 → Int32 → Int32 → Int32 → Int32 → Int32 → HP → Option (Int32 × HP)) : List AV → List AV → HP → Option (Int32 × HP) := fun L st h => match L, st with
  | [.inr (.inr (.inl (0, a1))), .inl a2, .inl a3, .inl a4, .inl a5, .inl a6, .inl a7, .inl a8, .inr (.inr (.inr ()))], [.inl a9] => k a1 a2 a3 a4 a5 a6 a7 a8 a9 h
  | _, _ => none
theorem pk_X0_opensIn_93_ok {Wp : List AV → List AV → HP → Prop} {r : (Int32 × HP)} {k : Nat → Int32 → Int32 → Int32 → Int32 → Int32 → Int32 → Int32 → Int32 → HP → Option (Int32 × HP)} (hk : ∀ (a1 : Nat) (a2 : Int32) (a3 : Int32) (a4 : Int32) (a5 : Int32) (a6 : Int32) (a7 : Int32) (a8 : Int32) (a9 : Int32) (h : HP), k a1 a2 a3 a4 a5 a6 a7 a8 a9 h = some r → Wp [.inr (.inr (.inl (0, a1))), .inl a2, .inl a3, .inl a4, .inl a5, .inl a6, .inl a7, .inl a8, .inr (.inr (.inr ()))] [.inl a9] h) : ∀ L st h, pk_X0_opensIn_93 k L st h = some r → Wp L st h := by
  intro L st h q
  unfold pk_X0_opensIn_93 at q
  split at q
  · exact hk _ _ _ _ _ _ _ _ _ _ q
  · cases q
noncomputable def g_X0_opensIn_76 (a1 : Nat) (a2 : Int32) (a3 : Int32) (a4 : Int32) (a5 : Int32) (a6 : Int32) (a7 : Int32) (a8 : Int32) (h : HP) : Option (Int32 × HP) := if a7 = (0 : Int32) then (g_X0_opensIn_93 a1 a2 a3 a4 a5 a6 a7 a8 0 h) else (if a5 = (0 : Int32) then (g_X0_opensIn_93 a1 a2 a3 a4 a5 a6 a7 a8 0 h) else (g_X0_opensIn_93 a1 a2 a3 a4 a5 a6 a7 a8 1 h))
def pk_X0_opensIn_76 (k : Nat → Int32 → Int32 → Int32 → Int32 → Int32 → Int32 → Int32 → HP → Option (Int32 × HP)) : List AV → List AV → HP → Option (Int32 × HP) := fun L st h => match L, st with
  | [.inr (.inr (.inl (0, a1))), .inl a2, .inl a3, .inl a4, .inl a5, .inl a6, .inl a7, .inr (.inr (.inr ())), .inr (.inr (.inr ()))], [.inl a8] => k a1 a2 a3 a4 a5 a6 a7 a8 h
  | _, _ => none
theorem pk_X0_opensIn_76_ok {Wp : List AV → List AV → HP → Prop} {r : (Int32 × HP)} {k : Nat → Int32 → Int32 → Int32 → Int32 → Int32 → Int32 → Int32 → HP → Option (Int32 × HP)} (hk : ∀ (a1 : Nat) (a2 : Int32) (a3 : Int32) (a4 : Int32) (a5 : Int32) (a6 : Int32) (a7 : Int32) (a8 : Int32) (h : HP), k a1 a2 a3 a4 a5 a6 a7 a8 h = some r → Wp [.inr (.inr (.inl (0, a1))), .inl a2, .inl a3, .inl a4, .inl a5, .inl a6, .inl a7, .inr (.inr (.inr ())), .inr (.inr (.inr ()))] [.inl a8] h) : ∀ L st h, pk_X0_opensIn_76 k L st h = some r → Wp L st h := by
  intro L st h q
  unfold pk_X0_opensIn_76 at q
  split at q
  · exact hk _ _ _ _ _ _ _ _ _ q
  · cases q
noncomputable def g_X0_opensIn_55 (a1 : Nat) (a2 : Int32) (a3 : Int32) (a4 : Int32) (a5 : Int32) (a6 : Int32) (a7 : Int32) (h : HP) : Option (Int32 × HP) := if a7 = (0 : Int32) then (g_X0_opensIn_76 a1 a2 a3 a4 a5 a6 a7 0 h) else (if (50 : Int32) ≤ h_rI h 0 a1 3 then (g_X0_opensIn_76 a1 a2 a3 a4 a5 a6 a7 0 h) else (g_X0_opensIn_76 a1 a2 a3 a4 a5 a6 a7 1 h))
def pk_X0_opensIn_55 (k : Nat → Int32 → Int32 → Int32 → Int32 → Int32 → Int32 → HP → Option (Int32 × HP)) : List AV → List AV → HP → Option (Int32 × HP) := fun L st h => match L, st with
  | [.inr (.inr (.inl (0, a1))), .inl a2, .inl a3, .inl a4, .inl a5, .inl a6, .inr (.inr (.inr ())), .inr (.inr (.inr ())), .inr (.inr (.inr ()))], [.inl a7] => k a1 a2 a3 a4 a5 a6 a7 h
  | _, _ => none
theorem pk_X0_opensIn_55_ok {Wp : List AV → List AV → HP → Prop} {r : (Int32 × HP)} {k : Nat → Int32 → Int32 → Int32 → Int32 → Int32 → Int32 → HP → Option (Int32 × HP)} (hk : ∀ (a1 : Nat) (a2 : Int32) (a3 : Int32) (a4 : Int32) (a5 : Int32) (a6 : Int32) (a7 : Int32) (h : HP), k a1 a2 a3 a4 a5 a6 a7 h = some r → Wp [.inr (.inr (.inl (0, a1))), .inl a2, .inl a3, .inl a4, .inl a5, .inl a6, .inr (.inr (.inr ())), .inr (.inr (.inr ())), .inr (.inr (.inr ()))] [.inl a7] h) : ∀ L st h, pk_X0_opensIn_55 k L st h = some r → Wp L st h := by
  intro L st h q
  unfold pk_X0_opensIn_55 at q
  split at q
  · exact hk _ _ _ _ _ _ _ _ q
  · cases q
noncomputable def g_X0_opensIn_41 (a1 : Nat) (a2 : Int32) (a3 : Int32) (a4 : Int32) (a5 : Int32) (a6 : Int32) (h : HP) : Option (Int32 × HP) := if (99 : Int32) ≤ h_rI h 0 a1 3 then (g_X0_opensIn_55 a1 a2 a3 a4 a5 a6 0 h) else (g_X0_opensIn_55 a1 a2 a3 a4 a5 a6 1 h)
def pk_X0_opensIn_41 (k : Nat → Int32 → Int32 → Int32 → Int32 → Int32 → HP → Option (Int32 × HP)) : List AV → List AV → HP → Option (Int32 × HP) := fun L st h => match L, st with
  | [.inr (.inr (.inl (0, a1))), .inl a2, .inl a3, .inl a4, .inl a5, .inl a6, .inr (.inr (.inr ())), .inr (.inr (.inr ())), .inr (.inr (.inr ()))], [] => k a1 a2 a3 a4 a5 a6 h
  | _, _ => none
theorem pk_X0_opensIn_41_ok {Wp : List AV → List AV → HP → Prop} {r : (Int32 × HP)} {k : Nat → Int32 → Int32 → Int32 → Int32 → Int32 → HP → Option (Int32 × HP)} (hk : ∀ (a1 : Nat) (a2 : Int32) (a3 : Int32) (a4 : Int32) (a5 : Int32) (a6 : Int32) (h : HP), k a1 a2 a3 a4 a5 a6 h = some r → Wp [.inr (.inr (.inl (0, a1))), .inl a2, .inl a3, .inl a4, .inl a5, .inl a6, .inr (.inr (.inr ())), .inr (.inr (.inr ())), .inr (.inr (.inr ()))] [] h) : ∀ L st h, pk_X0_opensIn_41 k L st h = some r → Wp L st h := by
  intro L st h q
  unfold pk_X0_opensIn_41 at q
  split at q
  · exact hk _ _ _ _ _ _ _ q
  · cases q
noncomputable def g_X0_opensIn_29 (a1 : Nat) (a2 : Int32) (a3 : Int32) (a4 : Int32) (a5 : Int32) (a6 : Int32) (h : HP) : Option (Int32 × HP) := if a5 = (0 : Int32) then (if a6 = (0 : Int32) then (g_X0_opensIn_55 a1 a2 a3 a4 a5 a6 0 h) else (g_X0_opensIn_41 a1 a2 a3 a4 a5 a6 h)) else (g_X0_opensIn_41 a1 a2 a3 a4 a5 a6 h)
def pk_X0_opensIn_29 (k : Nat → Int32 → Int32 → Int32 → Int32 → Int32 → HP → Option (Int32 × HP)) : List AV → List AV → HP → Option (Int32 × HP) := fun L st h => match L, st with
  | [.inr (.inr (.inl (0, a1))), .inl a2, .inl a3, .inl a4, .inl a5, .inr (.inr (.inr ())), .inr (.inr (.inr ())), .inr (.inr (.inr ())), .inr (.inr (.inr ()))], [.inl a6] => k a1 a2 a3 a4 a5 a6 h
  | _, _ => none
theorem pk_X0_opensIn_29_ok {Wp : List AV → List AV → HP → Prop} {r : (Int32 × HP)} {k : Nat → Int32 → Int32 → Int32 → Int32 → Int32 → HP → Option (Int32 × HP)} (hk : ∀ (a1 : Nat) (a2 : Int32) (a3 : Int32) (a4 : Int32) (a5 : Int32) (a6 : Int32) (h : HP), k a1 a2 a3 a4 a5 a6 h = some r → Wp [.inr (.inr (.inl (0, a1))), .inl a2, .inl a3, .inl a4, .inl a5, .inr (.inr (.inr ())), .inr (.inr (.inr ())), .inr (.inr (.inr ())), .inr (.inr (.inr ()))] [.inl a6] h) : ∀ L st h, pk_X0_opensIn_29 k L st h = some r → Wp L st h := by
  intro L st h q
  unfold pk_X0_opensIn_29 at q
  split at q
  · exact hk _ _ _ _ _ _ _ q
  · cases q
noncomputable def g_X0_opensIn_13 (a1 : Nat) (a2 : Int32) (a3 : Int32) (a4 : Int32) (a5 : Int32) (h : HP) : Option (Int32 × HP) := (f_X0_end a1 a4 h).bind (fun q_1 => if a2 = q_1.1 then (g_X0_opensIn_29 a1 a2 a3 a4 a5 1 q_1.2) else (g_X0_opensIn_29 a1 a2 a3 a4 a5 0 q_1.2))
def pk_X0_opensIn_13 (k : Nat → Int32 → Int32 → Int32 → Int32 → HP → Option (Int32 × HP)) : List AV → List AV → HP → Option (Int32 × HP) := fun L st h => match L, st with
  | [.inr (.inr (.inl (0, a1))), .inl a2, .inl a3, .inl a4, .inr (.inr (.inr ())), .inr (.inr (.inr ())), .inr (.inr (.inr ())), .inr (.inr (.inr ())), .inr (.inr (.inr ()))], [.inl a5] => k a1 a2 a3 a4 a5 h
  | _, _ => none
theorem pk_X0_opensIn_13_ok {Wp : List AV → List AV → HP → Prop} {r : (Int32 × HP)} {k : Nat → Int32 → Int32 → Int32 → Int32 → HP → Option (Int32 × HP)} (hk : ∀ (a1 : Nat) (a2 : Int32) (a3 : Int32) (a4 : Int32) (a5 : Int32) (h : HP), k a1 a2 a3 a4 a5 h = some r → Wp [.inr (.inr (.inl (0, a1))), .inl a2, .inl a3, .inl a4, .inr (.inr (.inr ())), .inr (.inr (.inr ())), .inr (.inr (.inr ())), .inr (.inr (.inr ())), .inr (.inr (.inr ()))] [.inl a5] h) : ∀ L st h, pk_X0_opensIn_13 k L st h = some r → Wp L st h := by
  intro L st h q
  unfold pk_X0_opensIn_13 at q
  split at q
  · exact hk _ _ _ _ _ _ q
  · cases q
noncomputable def f_X0_opensIn (a1 : Nat) (a2 : Int32) (a3 : Int32) (a4 : Int32) (h : HP) : Option (Int32 × HP) := if a2 = h_rI h 0 a1 1 then (g_X0_opensIn_13 a1 a2 a3 a4 1 h) else (g_X0_opensIn_13 a1 a2 a3 a4 0 h)
noncomputable def fl_X0_opensIn : List AV → HP → Option (Int32 × HP) := fun as h => match as with
  | [.inr (.inr (.inl (0, a1))), .inl a2, .inl a3, .inl a4] => f_X0_opensIn a1 a2 a3 a4 h
  | _ => none
noncomputable def F_X0_opensIn : AF := .inl fl_X0_opensIn
set_option maxRecDepth 20000 in
theorem w_X0_opensIn_93 {p : Program} {l : Launch} {e : Env} {R : Room} {s : State} {m : MethodId} {args : Array Value} {below : List Frame} {meth : Method} {c : Code} {cells slots : Nat} {G : AG} {Q : (Int32 × HP) → State → Prop} (CX : am_X p l e R s m args below meth c cells slots G 9 cX0_opensIn RX0 am_tb P_X0_opensIn am_rZ Q) {r : (Int32 × HP)} : ∀ (a1 : Nat) (a2 : Int32) (a3 : Int32) (a4 : Int32) (a5 : Int32) (a6 : Int32) (a7 : Int32) (a8 : Int32) (a9 : Int32) (h : HP), g_X0_opensIn_93 a1 a2 a3 a4 a5 a6 a7 a8 a9 h = some r → am_W p l e R s m args below meth c cells slots G 9 (Q r) 93 [.inr (.inr (.inl (0, a1))), .inl a2, .inl a3, .inl a4, .inl a5, .inl a6, .inl a7, .inl a8, .inr (.inr (.inr ()))] [.inl a9] h := by
  intro a1 a2 a3 a4 a5 a6 a7 a8 a9 h q
  exact am_run_ok CX ok_X0_opensIn (K := []) (am_K0 (Wp := am_W p l e R s m args below meth c cells slots G 9 (Q r))) 22 93 _ _ _ q
set_option maxRecDepth 20000 in
theorem w_X0_opensIn_76 {p : Program} {l : Launch} {e : Env} {R : Room} {s : State} {m : MethodId} {args : Array Value} {below : List Frame} {meth : Method} {c : Code} {cells slots : Nat} {G : AG} {Q : (Int32 × HP) → State → Prop} (CX : am_X p l e R s m args below meth c cells slots G 9 cX0_opensIn RX0 am_tb P_X0_opensIn am_rZ Q) {r : (Int32 × HP)} : ∀ (a1 : Nat) (a2 : Int32) (a3 : Int32) (a4 : Int32) (a5 : Int32) (a6 : Int32) (a7 : Int32) (a8 : Int32) (h : HP), g_X0_opensIn_76 a1 a2 a3 a4 a5 a6 a7 a8 h = some r → am_W p l e R s m args below meth c cells slots G 9 (Q r) 76 [.inr (.inr (.inl (0, a1))), .inl a2, .inl a3, .inl a4, .inl a5, .inl a6, .inl a7, .inr (.inr (.inr ())), .inr (.inr (.inr ()))] [.inl a8] h := by
  intro a1 a2 a3 a4 a5 a6 a7 a8 h q
  exact am_run_ok CX ok_X0_opensIn (K := [(93, pk_X0_opensIn_93 (g_X0_opensIn_93))]) (am_K1 (Wp := am_W p l e R s m args below meth c cells slots G 9 (Q r)) (pk_X0_opensIn_93_ok (Wp := am_W p l e R s m args below meth c cells slots G 9 (Q r) 93) (w_X0_opensIn_93 CX)) am_K0) 10 76 _ _ _ q
set_option maxRecDepth 20000 in
theorem w_X0_opensIn_55 {p : Program} {l : Launch} {e : Env} {R : Room} {s : State} {m : MethodId} {args : Array Value} {below : List Frame} {meth : Method} {c : Code} {cells slots : Nat} {G : AG} {Q : (Int32 × HP) → State → Prop} (CX : am_X p l e R s m args below meth c cells slots G 9 cX0_opensIn RX0 am_tb P_X0_opensIn am_rZ Q) {r : (Int32 × HP)} : ∀ (a1 : Nat) (a2 : Int32) (a3 : Int32) (a4 : Int32) (a5 : Int32) (a6 : Int32) (a7 : Int32) (h : HP), g_X0_opensIn_55 a1 a2 a3 a4 a5 a6 a7 h = some r → am_W p l e R s m args below meth c cells slots G 9 (Q r) 55 [.inr (.inr (.inl (0, a1))), .inl a2, .inl a3, .inl a4, .inl a5, .inl a6, .inr (.inr (.inr ())), .inr (.inr (.inr ())), .inr (.inr (.inr ()))] [.inl a7] h := by
  intro a1 a2 a3 a4 a5 a6 a7 h q
  exact am_run_ok CX ok_X0_opensIn (K := [(76, pk_X0_opensIn_76 (g_X0_opensIn_76))]) (am_K1 (Wp := am_W p l e R s m args below meth c cells slots G 9 (Q r)) (pk_X0_opensIn_76_ok (Wp := am_W p l e R s m args below meth c cells slots G 9 (Q r) 76) (w_X0_opensIn_76 CX)) am_K0) 12 55 _ _ _ q
set_option maxRecDepth 20000 in
theorem w_X0_opensIn_41 {p : Program} {l : Launch} {e : Env} {R : Room} {s : State} {m : MethodId} {args : Array Value} {below : List Frame} {meth : Method} {c : Code} {cells slots : Nat} {G : AG} {Q : (Int32 × HP) → State → Prop} (CX : am_X p l e R s m args below meth c cells slots G 9 cX0_opensIn RX0 am_tb P_X0_opensIn am_rZ Q) {r : (Int32 × HP)} : ∀ (a1 : Nat) (a2 : Int32) (a3 : Int32) (a4 : Int32) (a5 : Int32) (a6 : Int32) (h : HP), g_X0_opensIn_41 a1 a2 a3 a4 a5 a6 h = some r → am_W p l e R s m args below meth c cells slots G 9 (Q r) 41 [.inr (.inr (.inl (0, a1))), .inl a2, .inl a3, .inl a4, .inl a5, .inl a6, .inr (.inr (.inr ())), .inr (.inr (.inr ())), .inr (.inr (.inr ()))] [] h := by
  intro a1 a2 a3 a4 a5 a6 h q
  exact am_run_ok CX ok_X0_opensIn (K := [(55, pk_X0_opensIn_55 (g_X0_opensIn_55))]) (am_K1 (Wp := am_W p l e R s m args below meth c cells slots G 9 (Q r)) (pk_X0_opensIn_55_ok (Wp := am_W p l e R s m args below meth c cells slots G 9 (Q r) 55) (w_X0_opensIn_55 CX)) am_K0) 9 41 _ _ _ q
set_option maxRecDepth 20000 in
theorem w_X0_opensIn_29 {p : Program} {l : Launch} {e : Env} {R : Room} {s : State} {m : MethodId} {args : Array Value} {below : List Frame} {meth : Method} {c : Code} {cells slots : Nat} {G : AG} {Q : (Int32 × HP) → State → Prop} (CX : am_X p l e R s m args below meth c cells slots G 9 cX0_opensIn RX0 am_tb P_X0_opensIn am_rZ Q) {r : (Int32 × HP)} : ∀ (a1 : Nat) (a2 : Int32) (a3 : Int32) (a4 : Int32) (a5 : Int32) (a6 : Int32) (h : HP), g_X0_opensIn_29 a1 a2 a3 a4 a5 a6 h = some r → am_W p l e R s m args below meth c cells slots G 9 (Q r) 29 [.inr (.inr (.inl (0, a1))), .inl a2, .inl a3, .inl a4, .inl a5, .inr (.inr (.inr ())), .inr (.inr (.inr ())), .inr (.inr (.inr ())), .inr (.inr (.inr ()))] [.inl a6] h := by
  intro a1 a2 a3 a4 a5 a6 h q
  exact am_run_ok CX ok_X0_opensIn (K := [(41, pk_X0_opensIn_41 (g_X0_opensIn_41)), (55, pk_X0_opensIn_55 (g_X0_opensIn_55))]) (am_K1 (Wp := am_W p l e R s m args below meth c cells slots G 9 (Q r)) (pk_X0_opensIn_41_ok (Wp := am_W p l e R s m args below meth c cells slots G 9 (Q r) 41) (w_X0_opensIn_41 CX)) (am_K1 (Wp := am_W p l e R s m args below meth c cells slots G 9 (Q r)) (pk_X0_opensIn_55_ok (Wp := am_W p l e R s m args below meth c cells slots G 9 (Q r) 55) (w_X0_opensIn_55 CX)) am_K0)) 9 29 _ _ _ q
set_option maxRecDepth 20000 in
theorem w_X0_opensIn_13 {p : Program} {l : Launch} {e : Env} {R : Room} {s : State} {m : MethodId} {args : Array Value} {below : List Frame} {meth : Method} {c : Code} {cells slots : Nat} {G : AG} {Q : (Int32 × HP) → State → Prop} (CX : am_X p l e R s m args below meth c cells slots G 9 cX0_opensIn RX0 am_tb P_X0_opensIn am_rZ Q) {r : (Int32 × HP)} : ∀ (a1 : Nat) (a2 : Int32) (a3 : Int32) (a4 : Int32) (a5 : Int32) (h : HP), g_X0_opensIn_13 a1 a2 a3 a4 a5 h = some r → am_W p l e R s m args below meth c cells slots G 9 (Q r) 13 [.inr (.inr (.inl (0, a1))), .inl a2, .inl a3, .inl a4, .inr (.inr (.inr ())), .inr (.inr (.inr ())), .inr (.inr (.inr ())), .inr (.inr (.inr ())), .inr (.inr (.inr ()))] [.inl a5] h := by
  intro a1 a2 a3 a4 a5 h q
  exact am_run_ok CX ok_X0_opensIn (K := [(29, pk_X0_opensIn_29 (g_X0_opensIn_29))]) (am_K1 (Wp := am_W p l e R s m args below meth c cells slots G 9 (Q r)) (pk_X0_opensIn_29_ok (Wp := am_W p l e R s m args below meth c cells slots G 9 (Q r) 29) (w_X0_opensIn_29 CX)) am_K0) 11 13 _ _ _ q
set_option maxRecDepth 20000 in
theorem b_X0_opensIn (l : Launch) (G : AG) : am_B l G 9 cX0_opensIn RX0 am_tb P_X0_opensIn am_rZ fl_X0_opensIn := by
  intro p e R s m args below meth c cells slots Q CX as h r q
  unfold fl_X0_opensIn at q
  split at q
  · exact am_run_ok CX ok_X0_opensIn (K := [(13, pk_X0_opensIn_13 (g_X0_opensIn_13))]) (am_K1 (Wp := am_W p l e R s m args below meth c cells slots G 9 (Q r)) (pk_X0_opensIn_13_ok (Wp := am_W p l e R s m args below meth c cells slots G 9 (Q r) 13) (w_X0_opensIn_13 CX)) am_K0) 9 0 _ _ _ q
  · cases q
theorem s_X0_opensIn : ∀ as h x, fl_X0_opensIn as h = some x → (∀ k, (some 0 : Option Nat) = some k → ∃ (j : Nat) (as' : List AV), as = .inr (.inr (.inl (k, j))) :: as') ∧ (am_l0 as).length ≤ 9 := by
  intro as h x q
  unfold fl_X0_opensIn at q
  split at q
  · exact ⟨fun k e => by cases e; exact ⟨_, _, rfl⟩, Nat.le_of_ble_eq_true rfl⟩
  · cases q
theorem M_X0_opensIn (l : Launch) (G : AG) : am_M l G yX0_opensIn cX0_opensIn 9 (some .boolean) 2 43 (some 0) F_X0_opensIn := am_M_of (f := fl_X0_opensIn) (toR := fun x => (some (.inl x.1), x.2)) (P := P_X0_opensIn) (Rr := am_rZ) (own := RX0) (by decide) rfl (fun _ _ => rfl) s_X0_opensIn am_wrI am_rkZ pf_RX0 pk_RX0 ps_RX0 (List.forall_mem_cons.mpr ⟨cv_RX0_30 l G (by decide) (by decide), (List.forall_mem_cons.mpr ⟨cv_RX0_34 l G (by decide) (by decide), (List.forall_mem_cons.mpr ⟨cv_RX0_38 l G (by decide) (by decide), (fun _ q => by cases q)⟩)⟩)⟩) (fun _ q => by cases q) (fun _ q => by cases q) (b_X0_opensIn l G)
def C_X0_ledTo : List AC := [(0, .aload_n 0, 1, []), (1, .iload_n 2, 2, []), (2, .invokevirtual 34, 5, []), (5, .istore_n 3, 6, []), (6, .iload_n 1, 7, []), (7, .iload_n 3, 8, []), (8, .if_icmp .ne 10, 11, [18]), (11, .aload_n 0, 12, []), (12, .getfield 18, 15, []), (15, .goto 4, 18, [19]), (18, .iload_n 3, 19, []), (19, .ireturn, 20, [])]
theorem ok_X0_ledTo : ∀ x ∈ C_X0_ledTo, am_ok cX0_ledTo 4 x = true := by decide +kernel
noncomputable def P_X0_ledTo : AP := (PF_RX0, PK_RX0, PS_RX0, [(34, 2, F_X0_end)], [], [])
noncomputable def f_X0_ledTo (a1 : Nat) (a2 : Int32) (a3 : Int32) (h : HP) : Option (Int32 × HP) := (f_X0_end a1 a3 h).bind (fun q_1 => if a2 = q_1.1 then (some (h_rI q_1.2 0 a1 1, q_1.2)) else (some (q_1.1, q_1.2)))
noncomputable def fl_X0_ledTo : List AV → HP → Option (Int32 × HP) := fun as h => match as with
  | [.inr (.inr (.inl (0, a1))), .inl a2, .inl a3] => f_X0_ledTo a1 a2 a3 h
  | _ => none
noncomputable def F_X0_ledTo : AF := .inl fl_X0_ledTo
set_option maxRecDepth 20000 in
theorem b_X0_ledTo (l : Launch) (G : AG) : am_B l G 4 cX0_ledTo RX0 am_tb P_X0_ledTo am_rI fl_X0_ledTo := by
  intro p e R s m args below meth c cells slots Q CX as h r q
  unfold fl_X0_ledTo at q
  split at q
  · exact am_run_ok CX ok_X0_ledTo (K := []) (am_K0 (Wp := am_W p l e R s m args below meth c cells slots G 4 (Q r))) 14 0 _ _ _ q
  · cases q
theorem s_X0_ledTo : ∀ as h x, fl_X0_ledTo as h = some x → (∀ k, (some 0 : Option Nat) = some k → ∃ (j : Nat) (as' : List AV), as = .inr (.inr (.inl (k, j))) :: as') ∧ (am_l0 as).length ≤ 4 := by
  intro as h x q
  unfold fl_X0_ledTo at q
  split at q
  · exact ⟨fun k e => by cases e; exact ⟨_, _, rfl⟩, Nat.le_of_ble_eq_true rfl⟩
  · cases q
theorem M_X0_ledTo (l : Launch) (G : AG) : am_M l G yX0_ledTo cX0_ledTo 4 (some .int) 2 43 (some 0) F_X0_ledTo := am_M_of (f := fl_X0_ledTo) (toR := fun x => (some (.inl x.1), x.2)) (P := P_X0_ledTo) (Rr := am_rI) (own := RX0) (by decide) rfl (fun _ _ => rfl) s_X0_ledTo am_wrI am_rkI pf_RX0 pk_RX0 ps_RX0 (List.forall_mem_cons.mpr ⟨cv_RX0_34 l G (by decide) (by decide), (fun _ q => by cases q)⟩) (fun _ q => by cases q) (fun _ q => by cases q) (b_X0_ledTo l G)
def C_X0_wears : List AC := [(0, .aload_n 0, 1, []), (1, .getfield 15, 4, []), (4, .tableswitch 48 2 5 #[32, 34, 36, 34], 36, [52, 36, 38, 40, 38]), (36, .iconst 2, 37, []), (37, .ireturn, 38, []), (38, .iconst 3, 39, []), (39, .ireturn, 40, []), (40, .iload_n 1, 41, []), (41, .iconst 3, 42, []), (42, .irem, 43, []), (43, .ifCond .ne 7, 46, [50]), (46, .iconst 0, 47, []), (47, .goto 4, 50, [51]), (50, .iconst 1, 51, []), (51, .ireturn, 52, []), (52, .iconst 1, 53, []), (53, .ireturn, 54, [])]
theorem ok_X0_wears : ∀ x ∈ C_X0_wears, am_ok cX0_wears 2 x = true := by decide +kernel
noncomputable def P_X0_wears : AP := (PF_RX0, PK_RX0, PS_RX0, [], [], [])
noncomputable def f_X0_wears (a1 : Nat) (a2 : Int32) (h : HP) : Option (Int32 × HP) := if h_rI h 0 a1 0 = 2 then (some (2, h)) else (if h_rI h 0 a1 0 = 3 then (some (3, h)) else (if h_rI h 0 a1 0 = 4 then (if a2 - a2 / 3 * 3 = (0 : Int32) then (some (0, h)) else (some (1, h))) else (if h_rI h 0 a1 0 = 5 then (some (3, h)) else (some (1, h)))))
noncomputable def fl_X0_wears : List AV → HP → Option (Int32 × HP) := fun as h => match as with
  | [.inr (.inr (.inl (0, a1))), .inl a2] => f_X0_wears a1 a2 h
  | _ => none
noncomputable def F_X0_wears : AF := .inl fl_X0_wears
set_option maxRecDepth 20000 in
theorem b_X0_wears (l : Launch) (G : AG) : am_B l G 2 cX0_wears RX0 am_tb P_X0_wears am_rI fl_X0_wears := by
  intro p e R s m args below meth c cells slots Q CX as h r q
  unfold fl_X0_wears at q
  split at q
  · exact am_run_ok CX ok_X0_wears (K := []) (am_K0 (Wp := am_W p l e R s m args below meth c cells slots G 2 (Q r))) 13 0 _ _ _ q
  · cases q
theorem s_X0_wears : ∀ as h x, fl_X0_wears as h = some x → (∀ k, (some 0 : Option Nat) = some k → ∃ (j : Nat) (as' : List AV), as = .inr (.inr (.inl (k, j))) :: as') ∧ (am_l0 as).length ≤ 2 := by
  intro as h x q
  unfold fl_X0_wears at q
  split at q
  · exact ⟨fun k e => by cases e; exact ⟨_, _, rfl⟩, Nat.le_of_ble_eq_true rfl⟩
  · cases q
theorem M_X0_wears (l : Launch) (G : AG) : am_M l G yX0_wears cX0_wears 2 (some .int) 0 0 (some 0) F_X0_wears := am_M_of (f := fl_X0_wears) (toR := fun x => (some (.inl x.1), x.2)) (P := P_X0_wears) (Rr := am_rI) (own := RX0) (by decide) rfl (fun _ _ => rfl) s_X0_wears am_wrI am_rkI pf_RX0 pk_RX0 ps_RX0 (fun _ q => by cases q) (fun _ q => by cases q) (fun _ q => by cases q) (b_X0_wears l G)
theorem cv_RX0_41 (l : Launch) (G : AG) {fr lo : Nat} (h1 : 0 + 1 ≤ fr) (h2 : 8 + (2 + 11) + 0 ≤ lo) : am_cvOK l G RX0 fr lo (41, 2, F_X0_wears) := ⟨yX0_wears, cX0_wears, 2, (some .int), 0, 0, 0, RX0, M_X0_wears l G, ⟨(am_tb_mem (wd_8 _ (List.mem_of_getElem? (i := 29) rfl))), (am_tb_mem (wd_5 _ (List.mem_of_getElem? (i := 9) rfl))), (am_tb_mem (wd_5 _ (List.mem_of_getElem? (i := 10) rfl))), (am_tb_mem (wd_1 _ (List.mem_of_getElem? (i := 21) rfl))), (am_tb_mem (wd_5 _ (List.mem_of_getElem? (i := 11) rfl)))⟩, ⟨rfl, by decide, by decide, by decide +kernel⟩, Or.inl ⟨by decide, rfl⟩, h1, h2⟩
theorem cs_RX0_44 (l : Launch) (G : AG) {fr lo : Nat} (h1 : 1 ≤ fr) (h2 : 21 ≤ lo) : am_csOK l G RX0 fr lo (44, 2, F_J9_min_7cf53) := Or.inr (Or.inr ⟨rfl, ⟨(am_tb_mem (wd_8 _ (List.mem_of_getElem? (i := 30) rfl))), (am_tb_mem (wd_8 _ (List.mem_of_getElem? (i := 31) rfl))), (am_tb_mem (wd_1 _ (List.mem_of_getElem? (i := 28) rfl))), (am_tb_mem (wd_8 _ (List.mem_of_getElem? (i := 32) rfl)))⟩, h1, h2⟩)
def C_X0_wearOnce : List AC := [(0, .aload_n 0, 1, []), (1, .bipush 99, 3, []), (3, .aload_n 0, 4, []), (4, .getfield 24, 7, []), (7, .aload_n 0, 8, []), (8, .iload_n 1, 9, []), (9, .invokevirtual 41, 12, []), (12, .iadd, 13, []), (13, .invokestatic 44, 16, []), (16, .putfield 24, 19, []), (19, .return_, 20, [])]
theorem ok_X0_wearOnce : ∀ x ∈ C_X0_wearOnce, am_ok cX0_wearOnce 2 x = true := by decide +kernel
noncomputable def P_X0_wearOnce : AP := (PF_RX0, PK_RX0, PS_RX0, [(41, 2, F_X0_wears)], [(44, 2, F_J9_min_7cf53)], [])
noncomputable def f_X0_wearOnce (a1 : Nat) (a2 : Int32) (h : HP) : Option HP := (f_X0_wears a1 a2 h).bind (fun q_1 => (f_J9_min_7cf53 99 ((h_rI h 0 a1 3) + q_1.1) q_1.2).bind (fun q_2 => some (h_wI q_2.2 0 a1 3 q_2.1)))
noncomputable def fl_X0_wearOnce : List AV → HP → Option HP := fun as h => match as with
  | [.inr (.inr (.inl (0, a1))), .inl a2] => f_X0_wearOnce a1 a2 h
  | _ => none
noncomputable def F_X0_wearOnce : AF := .inr (.inl fl_X0_wearOnce)
set_option maxRecDepth 20000 in
theorem b_X0_wearOnce (l : Launch) (G : AG) : am_B l G 2 cX0_wearOnce RX0 am_tb P_X0_wearOnce am_rV fl_X0_wearOnce := by
  intro p e R s m args below meth c cells slots Q CX as h r q
  unfold fl_X0_wearOnce at q
  split at q
  · exact am_run_ok CX ok_X0_wearOnce (K := []) (am_K0 (Wp := am_W p l e R s m args below meth c cells slots G 2 (Q r))) 14 0 _ _ _ q
  · cases q
theorem s_X0_wearOnce : ∀ as h x, fl_X0_wearOnce as h = some x → (∀ k, (some 0 : Option Nat) = some k → ∃ (j : Nat) (as' : List AV), as = .inr (.inr (.inl (k, j))) :: as') ∧ (am_l0 as).length ≤ 2 := by
  intro as h x q
  unfold fl_X0_wearOnce at q
  split at q
  · exact ⟨fun k e => by cases e; exact ⟨_, _, rfl⟩, Nat.le_of_ble_eq_true rfl⟩
  · cases q
theorem M_X0_wearOnce (l : Launch) (G : AG) : am_M l G yX0_wearOnce cX0_wearOnce 2 none 1 21 (some 0) F_X0_wearOnce := am_M_of (f := fl_X0_wearOnce) (toR := fun x => (none, x)) (P := P_X0_wearOnce) (Rr := am_rV) (own := RX0) (by decide) rfl (fun _ _ => rfl) s_X0_wearOnce am_wrV am_rkV pf_RX0 pk_RX0 ps_RX0 (List.forall_mem_cons.mpr ⟨cv_RX0_41 l G (by decide) (by decide), (fun _ q => by cases q)⟩) (List.forall_mem_cons.mpr ⟨cs_RX0_44 l G (by decide) (by decide), (fun _ q => by cases q)⟩) (fun _ q => by cases q) (b_X0_wearOnce l G)
def C_X2_becomes : List AC := [(0, .aload_n 0, 1, []), (1, .aload_n 1, 2, []), (2, .getfield 7, 5, []), (5, .putfield 7, 8, []), (8, .aload_n 0, 9, []), (9, .aload_n 1, 10, []), (10, .getfield 13, 13, []), (13, .putfield 13, 16, []), (16, .return_, 17, [])]
theorem ok_X2_becomes : ∀ x ∈ C_X2_becomes, am_ok cX2_becomes 2 x = true := by decide +kernel
noncomputable def P_X2_becomes : AP := (PF_RX2, PK_RX2, PS_RX2, [], [], [])
noncomputable def f_X2_becomes (a1 : Nat) (a2 : Nat) (h : HP) : Option HP := some (h_wI (h_wI h 2 a1 0 (h_rI h 2 a2 0)) 2 a1 1 (h_rI (h_wI h 2 a1 0 (h_rI h 2 a2 0)) 2 a2 1))
noncomputable def fl_X2_becomes : List AV → HP → Option HP := fun as h => match as with
  | [.inr (.inr (.inl (2, a1))), .inr (.inr (.inl (2, a2)))] => f_X2_becomes a1 a2 h
  | _ => none
noncomputable def F_X2_becomes : AF := .inr (.inl fl_X2_becomes)
set_option maxRecDepth 20000 in
theorem b_X2_becomes (l : Launch) (G : AG) : am_B l G 2 cX2_becomes RX2 am_tb P_X2_becomes am_rV fl_X2_becomes := by
  intro p e R s m args below meth c cells slots Q CX as h r q
  unfold fl_X2_becomes at q
  split at q
  · exact am_run_ok CX ok_X2_becomes (K := []) (am_K0 (Wp := am_W p l e R s m args below meth c cells slots G 2 (Q r))) 12 0 _ _ _ q
  · cases q
theorem s_X2_becomes : ∀ as h x, fl_X2_becomes as h = some x → (∀ k, (some 2 : Option Nat) = some k → ∃ (j : Nat) (as' : List AV), as = .inr (.inr (.inl (k, j))) :: as') ∧ (am_l0 as).length ≤ 2 := by
  intro as h x q
  unfold fl_X2_becomes at q
  split at q
  · exact ⟨fun k e => by cases e; exact ⟨_, _, rfl⟩, Nat.le_of_ble_eq_true rfl⟩
  · cases q
theorem M_X2_becomes (l : Launch) (G : AG) : am_M l G yX2_becomes cX2_becomes 2 none 0 0 (some 2) F_X2_becomes := am_M_of (f := fl_X2_becomes) (toR := fun x => (none, x)) (P := P_X2_becomes) (Rr := am_rV) (own := RX2) (by decide) rfl (fun _ _ => rfl) s_X2_becomes am_wrV am_rkV pf_RX2 pk_RX2 ps_RX2 (fun _ q => by cases q) (fun _ q => by cases q) (fun _ q => by cases q) (b_X2_becomes l G)
def C_X3_start : List AC := [(0, .aload_n 0, 1, []), (1, .iload_n 1, 2, []), (2, .putfield 15, 5, []), (5, .aload_n 0, 6, []), (6, .iload_n 2, 7, []), (7, .putfield 19, 10, []), (10, .iconst 0, 11, []), (11, .istore_n 3, 12, []), (12, .iload_n 3, 13, []), (13, .bipush 40, 15, []), (15, .if_icmp .ge 16, 18, [31]), (18, .aload_n 0, 19, []), (19, .getfield 9, 22, []), (22, .iload_n 3, 23, []), (23, .lconst 0, 24, []), (24, .lastore, 25, []), (25, .iinc 3 1, 28, []), (28, .goto (-16), 31, [12]), (31, .return_, 32, [])]
theorem ok_X3_start : ∀ x ∈ C_X3_start, am_ok cX3_start 4 x = true := by decide +kernel
noncomputable def P_X3_start : AP := (PF_RX3, PK_RX3, PS_RX3, [], [], [])
noncomputable def g_X3_start_12  : Nat → Nat → Int32 → HP → Option HP
  | 0, _, _, _ => none
  | n + 1, a1, a2, h => if (40 : Int32) ≤ a2 then (some h) else ((am_ix a2 40).bind (fun k_1 => g_X3_start_12 n a1 (a2 + 1) (h_wJ h 12 a1 k_1 0)))
def pk_X3_start_12 (k : Nat → Int32 → HP → Option HP) : List AV → List AV → HP → Option HP := fun L st h => match L, st with
  | [.inr (.inr (.inl (3, a1))), .inl _, .inl _, .inl a2], [] => k a1 a2 h
  | _, _ => none
theorem pk_X3_start_12_ok {Wp : List AV → List AV → HP → Prop} {r : HP} {k : Nat → Int32 → HP → Option HP} (hk : ∀ (a1 : Nat) (a2 : Int32) (w1 : Int32) (w2 : Int32) (h : HP), k a1 a2 h = some r → Wp [.inr (.inr (.inl (3, a1))), .inl w1, .inl w2, .inl a2] [] h) : ∀ L st h, pk_X3_start_12 k L st h = some r → Wp L st h := by
  intro L st h q
  unfold pk_X3_start_12 at q
  split at q
  · exact hk _ _ _ _ _ q
  · cases q
noncomputable def f_X3_start (a1 : Nat) (a2 : Int32) (a3 : Int32) (h : HP) : Option HP := g_X3_start_12 am_fu a1 0 (h_wI (h_wI h 3 a1 0 a2) 3 a1 1 a3)
noncomputable def fl_X3_start : List AV → HP → Option HP := fun as h => match as with
  | [.inr (.inr (.inl (3, a1))), .inl a2, .inl a3] => f_X3_start a1 a2 a3 h
  | _ => none
noncomputable def F_X3_start : AF := .inr (.inl fl_X3_start)
set_option maxRecDepth 20000 in
theorem w_X3_start_12 {p : Program} {l : Launch} {e : Env} {R : Room} {s : State} {m : MethodId} {args : Array Value} {below : List Frame} {meth : Method} {c : Code} {cells slots : Nat} {G : AG} {Q : HP → State → Prop} (CX : am_X p l e R s m args below meth c cells slots G 4 cX3_start RX3 am_tb P_X3_start am_rV Q) {r : HP} : ∀ (n : Nat) (a1 : Nat) (a2 : Int32) (w1 : Int32) (w2 : Int32) (h : HP), g_X3_start_12 n a1 a2 h = some r → am_W p l e R s m args below meth c cells slots G 4 (Q r) 12 [.inr (.inr (.inl (3, a1))), .inl w1, .inl w2, .inl a2] [] h := by
  intro n
  induction n with
  | zero =>
    intro a1 a2 w1 w2 h q
    have q9 : (none : Option HP) = some r := q
    cases q9
  | succ n ih =>
    intro a1 a2 w1 w2 h q
    exact am_run_ok CX ok_X3_start (K := [(12, pk_X3_start_12 (g_X3_start_12 n))]) (am_K1 (Wp := am_W p l e R s m args below meth c cells slots G 4 (Q r)) (pk_X3_start_12_ok (Wp := am_W p l e R s m args below meth c cells slots G 4 (Q r) 12) ih) am_K0) 13 12 _ _ _ q
set_option maxRecDepth 20000 in
theorem b_X3_start (l : Launch) (G : AG) : am_B l G 4 cX3_start RX3 am_tb P_X3_start am_rV fl_X3_start := by
  intro p e R s m args below meth c cells slots Q CX as h r q
  unfold fl_X3_start at q
  split at q
  · exact am_run_ok CX ok_X3_start (K := [(12, pk_X3_start_12 (g_X3_start_12 am_fu))]) (am_K1 (Wp := am_W p l e R s m args below meth c cells slots G 4 (Q r)) (pk_X3_start_12_ok (Wp := am_W p l e R s m args below meth c cells slots G 4 (Q r) 12) (w_X3_start_12 CX am_fu)) am_K0) 11 0 _ _ _ q
  · cases q
theorem s_X3_start : ∀ as h x, fl_X3_start as h = some x → (∀ k, (some 3 : Option Nat) = some k → ∃ (j : Nat) (as' : List AV), as = .inr (.inr (.inl (k, j))) :: as') ∧ (am_l0 as).length ≤ 4 := by
  intro as h x q
  unfold fl_X3_start at q
  split at q
  · exact ⟨fun k e => by cases e; exact ⟨_, _, rfl⟩, Nat.le_of_ble_eq_true rfl⟩
  · cases q
theorem M_X3_start (l : Launch) (G : AG) : am_M l G yX3_start cX3_start 4 none 0 0 (some 3) F_X3_start := am_M_of (f := fl_X3_start) (toR := fun x => (none, x)) (P := P_X3_start) (Rr := am_rV) (own := RX3) (by decide) rfl (fun _ _ => rfl) s_X3_start am_wrV am_rkV pf_RX3 pk_RX3 ps_RX3 (fun _ q => by cases q) (fun _ q => by cases q) (fun _ q => by cases q) (b_X3_start l G)
def C_X3_isMissing : List AC := [(0, .aload_n 0, 1, []), (1, .getfield 15, 4, []), (4, .ifCond .ne 7, 7, [11]), (7, .iconst 1, 8, []), (8, .goto 4, 11, [12]), (11, .iconst 0, 12, []), (12, .ireturn, 13, [])]
theorem ok_X3_isMissing : ∀ x ∈ C_X3_isMissing, am_ok cX3_isMissing 1 x = true := by decide +kernel
noncomputable def P_X3_isMissing : AP := (PF_RX3, PK_RX3, PS_RX3, [], [], [])
noncomputable def f_X3_isMissing (a1 : Nat) (h : HP) : Option (Int32 × HP) := if h_rI h 3 a1 0 = (0 : Int32) then (some (1, h)) else (some (0, h))
noncomputable def fl_X3_isMissing : List AV → HP → Option (Int32 × HP) := fun as h => match as with
  | [.inr (.inr (.inl (3, a1)))] => f_X3_isMissing a1 h
  | _ => none
noncomputable def F_X3_isMissing : AF := .inl fl_X3_isMissing
set_option maxRecDepth 20000 in
theorem b_X3_isMissing (l : Launch) (G : AG) : am_B l G 1 cX3_isMissing RX3 am_tb P_X3_isMissing am_rZ fl_X3_isMissing := by
  intro p e R s m args below meth c cells slots Q CX as h r q
  unfold fl_X3_isMissing at q
  split at q
  · exact am_run_ok CX ok_X3_isMissing (K := []) (am_K0 (Wp := am_W p l e R s m args below meth c cells slots G 1 (Q r))) 9 0 _ _ _ q
  · cases q
theorem s_X3_isMissing : ∀ as h x, fl_X3_isMissing as h = some x → (∀ k, (some 3 : Option Nat) = some k → ∃ (j : Nat) (as' : List AV), as = .inr (.inr (.inl (k, j))) :: as') ∧ (am_l0 as).length ≤ 1 := by
  intro as h x q
  unfold fl_X3_isMissing at q
  split at q
  · exact ⟨fun k e => by cases e; exact ⟨_, _, rfl⟩, Nat.le_of_ble_eq_true rfl⟩
  · cases q
theorem M_X3_isMissing (l : Launch) (G : AG) : am_M l G yX3_isMissing cX3_isMissing 1 (some .boolean) 0 0 (some 3) F_X3_isMissing := am_M_of (f := fl_X3_isMissing) (toR := fun x => (some (.inl x.1), x.2)) (P := P_X3_isMissing) (Rr := am_rZ) (own := RX3) (by decide) rfl (fun _ _ => rfl) s_X3_isMissing am_wrI am_rkZ pf_RX3 pk_RX3 ps_RX3 (fun _ q => by cases q) (fun _ q => by cases q) (fun _ q => by cases q) (b_X3_isMissing l G)
def C_X3_put : List AC := [(0, .iload_n 1, 1, []), (1, .ifCond .lt 11, 4, [12]), (4, .iload_n 1, 5, []), (5, .aload_n 0, 6, []), (6, .getfield 19, 9, []), (9, .if_icmp .lt 4, 12, [13]), (12, .return_, 13, []), (13, .aload_n 0, 14, []), (14, .getfield 15, 17, []), (17, .bipush 8, 19, []), (19, .if_icmp .ne 16, 22, [35]), (22, .aload_n 0, 23, []), (23, .getfield 9, 26, []), (26, .iload_n 1, 27, []), (27, .lload_n 2, 28, []), (28, .l2i, 29, []), (29, .i2b, 30, []), (30, .i2l, 31, []), (31, .lastore, 32, []), (32, .goto 32, 35, [64]), (35, .aload_n 0, 36, []), (36, .getfield 15, 39, []), (39, .bipush 16, 41, []), (41, .if_icmp .ne 16, 44, [57]), (44, .aload_n 0, 45, []), (45, .getfield 9, 48, []), (48, .iload_n 1, 49, []), (49, .lload_n 2, 50, []), (50, .l2i, 51, []), (51, .i2s, 52, []), (52, .i2l, 53, []), (53, .lastore, 54, []), (54, .goto 10, 57, [64]), (57, .aload_n 0, 58, []), (58, .getfield 9, 61, []), (61, .iload_n 1, 62, []), (62, .lload_n 2, 63, []), (63, .lastore, 64, []), (64, .return_, 65, [])]
theorem ok_X3_put : ∀ x ∈ C_X3_put, am_ok cX3_put 4 x = true := by decide +kernel
noncomputable def P_X3_put : AP := (PF_RX3, PK_RX3, PS_RX3, [], [], [])
noncomputable def f_X3_put (a1 : Nat) (a2 : Int32) (a3 : Int64) (h : HP) : Option HP := if a2 < (0 : Int32) then (some h) else (if a2 < h_rI h 3 a1 1 then (if h_rI h 3 a1 0 = (8 : Int32) then ((am_ix a2 40).bind (fun k_3 => some (h_wJ h 12 a1 k_3 (Int32.toInt64 ((Int32.toInt8 (Int64.toInt32 a3)).toInt32))))) else (if h_rI h 3 a1 0 = (16 : Int32) then ((am_ix a2 40).bind (fun k_2 => some (h_wJ h 12 a1 k_2 (Int32.toInt64 ((Int32.toInt16 (Int64.toInt32 a3)).toInt32))))) else ((am_ix a2 40).bind (fun k_1 => some (h_wJ h 12 a1 k_1 a3))))) else (some h))
noncomputable def fl_X3_put : List AV → HP → Option HP := fun as h => match as with
  | [.inr (.inr (.inl (3, a1))), .inl a2, .inr (.inl a3)] => f_X3_put a1 a2 a3 h
  | _ => none
noncomputable def F_X3_put : AF := .inr (.inl fl_X3_put)
set_option maxRecDepth 20000 in
theorem b_X3_put (l : Launch) (G : AG) : am_B l G 4 cX3_put RX3 am_tb P_X3_put am_rV fl_X3_put := by
  intro p e R s m args below meth c cells slots Q CX as h r q
  unfold fl_X3_put at q
  split at q
  · exact am_run_ok CX ok_X3_put (K := []) (am_K0 (Wp := am_W p l e R s m args below meth c cells slots G 4 (Q r))) 27 0 _ _ _ q
  · cases q
theorem s_X3_put : ∀ as h x, fl_X3_put as h = some x → (∀ k, (some 3 : Option Nat) = some k → ∃ (j : Nat) (as' : List AV), as = .inr (.inr (.inl (k, j))) :: as') ∧ (am_l0 as).length ≤ 4 := by
  intro as h x q
  unfold fl_X3_put at q
  split at q
  · exact ⟨fun k e => by cases e; exact ⟨_, _, rfl⟩, Nat.le_of_ble_eq_true rfl⟩
  · cases q
theorem M_X3_put (l : Launch) (G : AG) : am_M l G yX3_put cX3_put 4 none 0 0 (some 3) F_X3_put := am_M_of (f := fl_X3_put) (toR := fun x => (none, x)) (P := P_X3_put) (Rr := am_rV) (own := RX3) (by decide) rfl (fun _ _ => rfl) s_X3_put am_wrV am_rkV pf_RX3 pk_RX3 ps_RX3 (fun _ q => by cases q) (fun _ q => by cases q) (fun _ q => by cases q) (b_X3_put l G)
def C_X3_hasPart : List AC := [(0, .iload_n 1, 1, []), (1, .ifCond .lt 29, 4, [30]), (4, .iload_n 2, 5, []), (5, .ifCond .lt 25, 8, [30]), (8, .iload_n 2, 9, []), (9, .aload_n 0, 10, []), (10, .getfield 19, 13, []), (13, .if_icmp .gt 17, 16, [30]), (16, .iload_n 1, 17, []), (17, .aload_n 0, 18, []), (18, .getfield 19, 21, []), (21, .iload_n 2, 22, []), (22, .isub, 23, []), (23, .if_icmp .gt 7, 26, [30]), (26, .iconst 1, 27, []), (27, .goto 4, 30, [31]), (30, .iconst 0, 31, []), (31, .ireturn, 32, [])]
theorem ok_X3_hasPart : ∀ x ∈ C_X3_hasPart, am_ok cX3_hasPart 3 x = true := by decide +kernel
noncomputable def P_X3_hasPart : AP := (PF_RX3, PK_RX3, PS_RX3, [], [], [])
noncomputable def f_X3_hasPart (a1 : Nat) (a2 : Int32) (a3 : Int32) (h : HP) : Option (Int32 × HP) := if a2 < (0 : Int32) then (some (0, h)) else (if a3 < (0 : Int32) then (some (0, h)) else (if h_rI h 3 a1 1 < a3 then (some (0, h)) else (if (h_rI h 3 a1 1) - a3 < a2 then (some (0, h)) else (some (1, h)))))
noncomputable def fl_X3_hasPart : List AV → HP → Option (Int32 × HP) := fun as h => match as with
  | [.inr (.inr (.inl (3, a1))), .inl a2, .inl a3] => f_X3_hasPart a1 a2 a3 h
  | _ => none
noncomputable def F_X3_hasPart : AF := .inl fl_X3_hasPart
set_option maxRecDepth 20000 in
theorem b_X3_hasPart (l : Launch) (G : AG) : am_B l G 3 cX3_hasPart RX3 am_tb P_X3_hasPart am_rZ fl_X3_hasPart := by
  intro p e R s m args below meth c cells slots Q CX as h r q
  unfold fl_X3_hasPart at q
  split at q
  · exact am_run_ok CX ok_X3_hasPart (K := []) (am_K0 (Wp := am_W p l e R s m args below meth c cells slots G 3 (Q r))) 20 0 _ _ _ q
  · cases q
theorem s_X3_hasPart : ∀ as h x, fl_X3_hasPart as h = some x → (∀ k, (some 3 : Option Nat) = some k → ∃ (j : Nat) (as' : List AV), as = .inr (.inr (.inl (k, j))) :: as') ∧ (am_l0 as).length ≤ 3 := by
  intro as h x q
  unfold fl_X3_hasPart at q
  split at q
  · exact ⟨fun k e => by cases e; exact ⟨_, _, rfl⟩, Nat.le_of_ble_eq_true rfl⟩
  · cases q
theorem M_X3_hasPart (l : Launch) (G : AG) : am_M l G yX3_hasPart cX3_hasPart 3 (some .boolean) 0 0 (some 3) F_X3_hasPart := am_M_of (f := fl_X3_hasPart) (toR := fun x => (some (.inl x.1), x.2)) (P := P_X3_hasPart) (Rr := am_rZ) (own := RX3) (by decide) rfl (fun _ _ => rfl) s_X3_hasPart am_wrI am_rkZ pf_RX3 pk_RX3 ps_RX3 (fun _ q => by cases q) (fun _ q => by cases q) (fun _ q => by cases q) (b_X3_hasPart l G)
def C_X4_hasPlaceFor : List AC := [(0, .aload_n 0, 1, []), (1, .getfield 15, 4, []), (4, .iload_n 1, 5, []), (5, .iadd, 6, []), (6, .bipush 120, 8, []), (8, .if_icmp .gt 7, 11, [15]), (11, .iconst 1, 12, []), (12, .goto 4, 15, [16]), (15, .iconst 0, 16, []), (16, .ireturn, 17, [])]
theorem ok_X4_hasPlaceFor : ∀ x ∈ C_X4_hasPlaceFor, am_ok cX4_hasPlaceFor 2 x = true := by decide +kernel
noncomputable def P_X4_hasPlaceFor : AP := (PF_RX4, PK_RX4, PS_RX4, [], [], [])
noncomputable def f_X4_hasPlaceFor (a1 : Int32) (h : HP) : Option (Int32 × HP) := if (120 : Int32) < (h_rI h 4 0 1) + a1 then (some (0, h)) else (some (1, h))
noncomputable def fl_X4_hasPlaceFor : List AV → HP → Option (Int32 × HP) := fun as h => match as with
  | [.inr (.inr (.inl (4, 0))), .inl a1] => f_X4_hasPlaceFor a1 h
  | _ => none
noncomputable def F_X4_hasPlaceFor : AF := .inl fl_X4_hasPlaceFor
set_option maxRecDepth 20000 in
theorem b_X4_hasPlaceFor (l : Launch) (G : AG) : am_B l G 2 cX4_hasPlaceFor RX4 am_tb P_X4_hasPlaceFor am_rZ fl_X4_hasPlaceFor := by
  intro p e R s m args below meth c cells slots Q CX as h r q
  unfold fl_X4_hasPlaceFor at q
  split at q
  · exact am_run_ok CX ok_X4_hasPlaceFor (K := []) (am_K0 (Wp := am_W p l e R s m args below meth c cells slots G 2 (Q r))) 12 0 _ _ _ q
  · cases q
theorem s_X4_hasPlaceFor : ∀ as h x, fl_X4_hasPlaceFor as h = some x → (∀ k, (some 4 : Option Nat) = some k → ∃ (j : Nat) (as' : List AV), as = .inr (.inr (.inl (k, j))) :: as') ∧ (am_l0 as).length ≤ 2 := by
  intro as h x q
  unfold fl_X4_hasPlaceFor at q
  split at q
  · exact ⟨fun k e => by cases e; exact ⟨_, _, rfl⟩, Nat.le_of_ble_eq_true rfl⟩
  · cases q
theorem M_X4_hasPlaceFor (l : Launch) (G : AG) : am_M l G yX4_hasPlaceFor cX4_hasPlaceFor 2 (some .boolean) 0 0 (some 4) F_X4_hasPlaceFor := am_M_of (f := fl_X4_hasPlaceFor) (toR := fun x => (some (.inl x.1), x.2)) (P := P_X4_hasPlaceFor) (Rr := am_rZ) (own := RX4) (by decide) rfl (fun _ _ => rfl) s_X4_hasPlaceFor am_wrI am_rkZ pf_RX4 pk_RX4 ps_RX4 (fun _ q => by cases q) (fun _ q => by cases q) (fun _ q => by cases q) (b_X4_hasPlaceFor l G)
def C_X4_add : List AC := [(0, .aload_n 0, 1, []), (1, .getfield 9, 4, []), (4, .aload_n 0, 5, []), (5, .getfield 15, 8, []), (8, .iload_n 1, 9, []), (9, .iastore, 10, []), (10, .aload_n 0, 11, []), (11, .dup, 12, []), (12, .getfield 15, 15, []), (15, .iconst 1, 16, []), (16, .iadd, 17, []), (17, .putfield 15, 20, []), (20, .return_, 21, [])]
theorem ok_X4_add : ∀ x ∈ C_X4_add, am_ok cX4_add 2 x = true := by decide +kernel
noncomputable def P_X4_add : AP := (PF_RX4, PK_RX4, PS_RX4, [], [], [])
noncomputable def f_X4_add (a1 : Int32) (h : HP) : Option HP := (am_ix (h_rI h 4 0 1) 120).bind (fun k_1 => some (h_wI (h_wI h 11 0 k_1 a1) 4 0 1 ((h_rI (h_wI h 11 0 k_1 a1) 4 0 1) + 1)))
noncomputable def fl_X4_add : List AV → HP → Option HP := fun as h => match as with
  | [.inr (.inr (.inl (4, 0))), .inl a1] => f_X4_add a1 h
  | _ => none
noncomputable def F_X4_add : AF := .inr (.inl fl_X4_add)
set_option maxRecDepth 20000 in
theorem b_X4_add (l : Launch) (G : AG) : am_B l G 2 cX4_add RX4 am_tb P_X4_add am_rV fl_X4_add := by
  intro p e R s m args below meth c cells slots Q CX as h r q
  unfold fl_X4_add at q
  split at q
  · exact am_run_ok CX ok_X4_add (K := []) (am_K0 (Wp := am_W p l e R s m args below meth c cells slots G 2 (Q r))) 16 0 _ _ _ q
  · cases q
theorem s_X4_add : ∀ as h x, fl_X4_add as h = some x → (∀ k, (some 4 : Option Nat) = some k → ∃ (j : Nat) (as' : List AV), as = .inr (.inr (.inl (k, j))) :: as') ∧ (am_l0 as).length ≤ 2 := by
  intro as h x q
  unfold fl_X4_add at q
  split at q
  · exact ⟨fun k e => by cases e; exact ⟨_, _, rfl⟩, Nat.le_of_ble_eq_true rfl⟩
  · cases q
theorem M_X4_add (l : Launch) (G : AG) : am_M l G yX4_add cX4_add 2 none 0 0 (some 4) F_X4_add := am_M_of (f := fl_X4_add) (toR := fun x => (none, x)) (P := P_X4_add) (Rr := am_rV) (own := RX4) (by decide) rfl (fun _ _ => rfl) s_X4_add am_wrV am_rkV pf_RX4 pk_RX4 ps_RX4 (fun _ q => by cases q) (fun _ q => by cases q) (fun _ q => by cases q) (b_X4_add l G)
def C_X4_clear : List AC := [(0, .aload_n 0, 1, []), (1, .getfield 15, 4, []), (4, .istore_n 1, 5, []), (5, .aload_n 0, 6, []), (6, .iconst 0, 7, []), (7, .putfield 15, 10, []), (10, .iload_n 1, 11, []), (11, .ireturn, 12, [])]
theorem ok_X4_clear : ∀ x ∈ C_X4_clear, am_ok cX4_clear 2 x = true := by decide +kernel
noncomputable def P_X4_clear : AP := (PF_RX4, PK_RX4, PS_RX4, [], [], [])
noncomputable def f_X4_clear  (h : HP) : Option (Int32 × HP) := some (h_rI h 4 0 1, h_wI h 4 0 1 0)
noncomputable def fl_X4_clear : List AV → HP → Option (Int32 × HP) := fun as h => match as with
  | [.inr (.inr (.inl (4, 0)))] => f_X4_clear h
  | _ => none
noncomputable def F_X4_clear : AF := .inl fl_X4_clear
set_option maxRecDepth 20000 in
theorem b_X4_clear (l : Launch) (G : AG) : am_B l G 2 cX4_clear RX4 am_tb P_X4_clear am_rI fl_X4_clear := by
  intro p e R s m args below meth c cells slots Q CX as h r q
  unfold fl_X4_clear at q
  split at q
  · exact am_run_ok CX ok_X4_clear (K := []) (am_K0 (Wp := am_W p l e R s m args below meth c cells slots G 2 (Q r))) 11 0 _ _ _ q
  · cases q
theorem s_X4_clear : ∀ as h x, fl_X4_clear as h = some x → (∀ k, (some 4 : Option Nat) = some k → ∃ (j : Nat) (as' : List AV), as = .inr (.inr (.inl (k, j))) :: as') ∧ (am_l0 as).length ≤ 2 := by
  intro as h x q
  unfold fl_X4_clear at q
  split at q
  · exact ⟨fun k e => by cases e; exact ⟨_, _, rfl⟩, Nat.le_of_ble_eq_true rfl⟩
  · cases q
theorem M_X4_clear (l : Launch) (G : AG) : am_M l G yX4_clear cX4_clear 2 (some .int) 0 0 (some 4) F_X4_clear := am_M_of (f := fl_X4_clear) (toR := fun x => (some (.inl x.1), x.2)) (P := P_X4_clear) (Rr := am_rI) (own := RX4) (by decide) rfl (fun _ _ => rfl) s_X4_clear am_wrI am_rkI pf_RX4 pk_RX4 ps_RX4 (fun _ q => by cases q) (fun _ q => by cases q) (fun _ q => by cases q) (b_X4_clear l G)
