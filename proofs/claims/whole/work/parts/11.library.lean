/-! 11.library -/
theorem cv_RX1_35 (l : Launch) (G : AG) {fr lo : Nat} (h1 : 0 + 1 ≤ fr) (h2 : 8 + (2 + 11) + 0 ≤ lo) : am_cvOK l G RX1 fr lo (35, 2, F_X0_becomes) := ⟨yX0_becomes, cX0_becomes, 2, none, 0, 0, 0, RX0, M_X0_becomes l G, ⟨(am_tb_mem (wd_10 _ (List.mem_of_getElem? (i := 0) rfl))), (am_tb_mem (wd_10 _ (List.mem_of_getElem? (i := 1) rfl))), (am_tb_mem (wd_10 _ (List.mem_of_getElem? (i := 2) rfl))), (am_tb_mem (wd_1 _ (List.mem_of_getElem? (i := 21) rfl))), (am_tb_mem (wd_10 _ (List.mem_of_getElem? (i := 3) rfl)))⟩, ⟨rfl, by decide, by decide, by decide +kernel⟩, Or.inl ⟨by decide, rfl⟩, h1, h2⟩
theorem cv_RX1_42 (l : Launch) (G : AG) {fr lo : Nat} (h1 : 0 + 1 ≤ fr) (h2 : 8 + (2 + 11) + 0 ≤ lo) : am_cvOK l G RX1 fr lo (42, 2, F_X2_becomes) := ⟨yX2_becomes, cX2_becomes, 2, none, 0, 0, 2, RX2, M_X2_becomes l G, ⟨(am_tb_mem (wd_10 _ (List.mem_of_getElem? (i := 4) rfl))), (am_tb_mem (wd_10 _ (List.mem_of_getElem? (i := 5) rfl))), (am_tb_mem (wd_10 _ (List.mem_of_getElem? (i := 6) rfl))), (am_tb_mem (wd_1 _ (List.mem_of_getElem? (i := 22) rfl))), (am_tb_mem (wd_10 _ (List.mem_of_getElem? (i := 7) rfl)))⟩, ⟨rfl, by decide, by decide, by decide +kernel⟩, Or.inl ⟨by decide, rfl⟩, h1, h2⟩
def C_X1_becomes : List AC := [(0, .aload_n 0, 1, []), (1, .aload_n 1, 2, []), (2, .getfield 29, 5, []), (5, .putfield 29, 8, []), (8, .aload_n 0, 9, []), (9, .aload_n 1, 10, []), (10, .getfield 9, 13, []), (13, .putfield 9, 16, []), (16, .aload_n 0, 17, []), (17, .aload_n 1, 18, []), (18, .getfield 32, 21, []), (21, .putfield 32, 24, []), (24, .iconst 0, 25, []), (25, .istore_n 2, 26, []), (26, .iload_n 2, 27, []), (27, .aload_n 0, 28, []), (28, .getfield 32, 31, []), (31, .if_icmp .ge 24, 34, [55]), (34, .aload_n 0, 35, []), (35, .getfield 17, 38, []), (38, .iload_n 2, 39, []), (39, .aaload, 40, []), (40, .aload_n 1, 41, []), (41, .getfield 17, 44, []), (44, .iload_n 2, 45, []), (45, .aaload, 46, []), (46, .invokevirtual 35, 49, []), (49, .iinc 2 1, 52, []), (52, .goto (-26), 55, [26]), (55, .aload_n 0, 56, []), (56, .aload_n 1, 57, []), (57, .getfield 39, 60, []), (60, .putfield 39, 63, []), (63, .iconst 0, 64, []), (64, .istore_n 2, 65, []), (65, .iload_n 2, 66, []), (66, .aload_n 0, 67, []), (67, .getfield 39, 70, []), (70, .if_icmp .ge 24, 73, [94]), (73, .aload_n 0, 74, []), (74, .getfield 24, 77, []), (77, .iload_n 2, 78, []), (78, .aaload, 79, []), (79, .aload_n 1, 80, []), (80, .getfield 24, 83, []), (83, .iload_n 2, 84, []), (84, .aaload, 85, []), (85, .invokevirtual 42, 88, []), (88, .iinc 2 1, 91, []), (91, .goto (-26), 94, [65]), (94, .return_, 95, [])]
theorem ok_X1_becomes : ∀ x ∈ C_X1_becomes, am_ok cX1_becomes 3 x = true := by decide +kernel
noncomputable def P_X1_becomes : AP := (PF_RX1, PK_RX1, PS_RX1, [(35, 2, F_X0_becomes), (42, 2, F_X2_becomes)], [], [])
noncomputable def g_X1_becomes_65  : Nat → Nat → Nat → Int32 → HP → Option HP
  | 0, _, _, _, _ => none
  | n + 1, a1, a2, a3, h => if h_rI h 1 a1 5 ≤ a3 then (some h) else ((am_ix a3 6).bind (fun k_1 => (am_ix a3 6).bind (fun k_2 => (f_X2_becomes (6 * a1 + k_1) (6 * a2 + k_2) h).bind (fun q_3 => g_X1_becomes_65 n a1 a2 (a3 + 1) q_3))))
def pk_X1_becomes_65 (k : Nat → Nat → Int32 → HP → Option HP) : List AV → List AV → HP → Option HP := fun L st h => match L, st with
  | [.inr (.inr (.inl (1, a1))), .inr (.inr (.inl (1, a2))), .inl a3], [] => k a1 a2 a3 h
  | _, _ => none
theorem pk_X1_becomes_65_ok {Wp : List AV → List AV → HP → Prop} {r : HP} {k : Nat → Nat → Int32 → HP → Option HP} (hk : ∀ (a1 : Nat) (a2 : Nat) (a3 : Int32) (h : HP), k a1 a2 a3 h = some r → Wp [.inr (.inr (.inl (1, a1))), .inr (.inr (.inl (1, a2))), .inl a3] [] h) : ∀ L st h, pk_X1_becomes_65 k L st h = some r → Wp L st h := by
  intro L st h q
  unfold pk_X1_becomes_65 at q
  split at q
  · exact hk _ _ _ _ q
  · cases q
noncomputable def g_X1_becomes_26  : Nat → Nat → Nat → Int32 → HP → Option HP
  | 0, _, _, _, _ => none
  | n + 1, a1, a2, a3, h => if h_rI h 1 a1 3 ≤ a3 then (g_X1_becomes_65 am_fu a1 a2 0 (h_wI h 1 a1 5 (h_rI h 1 a2 5))) else ((am_ix a3 8).bind (fun k_1 => (am_ix a3 8).bind (fun k_2 => (f_X0_becomes (8 * a1 + k_1) (8 * a2 + k_2) h).bind (fun q_3 => g_X1_becomes_26 n a1 a2 (a3 + 1) q_3))))
def pk_X1_becomes_26 (k : Nat → Nat → Int32 → HP → Option HP) : List AV → List AV → HP → Option HP := fun L st h => match L, st with
  | [.inr (.inr (.inl (1, a1))), .inr (.inr (.inl (1, a2))), .inl a3], [] => k a1 a2 a3 h
  | _, _ => none
theorem pk_X1_becomes_26_ok {Wp : List AV → List AV → HP → Prop} {r : HP} {k : Nat → Nat → Int32 → HP → Option HP} (hk : ∀ (a1 : Nat) (a2 : Nat) (a3 : Int32) (h : HP), k a1 a2 a3 h = some r → Wp [.inr (.inr (.inl (1, a1))), .inr (.inr (.inl (1, a2))), .inl a3] [] h) : ∀ L st h, pk_X1_becomes_26 k L st h = some r → Wp L st h := by
  intro L st h q
  unfold pk_X1_becomes_26 at q
  split at q
  · exact hk _ _ _ _ q
  · cases q
noncomputable def f_X1_becomes (a1 : Nat) (a2 : Nat) (h : HP) : Option HP := g_X1_becomes_26 am_fu a1 a2 0 (h_wI (h_wI (h_wI h 1 a1 0 (h_rI h 1 a2 0)) 1 a1 1 (h_rI (h_wI h 1 a1 0 (h_rI h 1 a2 0)) 1 a2 1)) 1 a1 3 (h_rI (h_wI (h_wI h 1 a1 0 (h_rI h 1 a2 0)) 1 a1 1 (h_rI (h_wI h 1 a1 0 (h_rI h 1 a2 0)) 1 a2 1)) 1 a2 3))
noncomputable def fl_X1_becomes : List AV → HP → Option HP := fun as h => match as with
  | [.inr (.inr (.inl (1, a1))), .inr (.inr (.inl (1, a2)))] => f_X1_becomes a1 a2 h
  | _ => none
noncomputable def F_X1_becomes : AF := .inr (.inl fl_X1_becomes)
set_option maxRecDepth 20000 in
theorem w_X1_becomes_65 {p : Program} {l : Launch} {e : Env} {R : Room} {s : State} {m : MethodId} {args : Array Value} {below : List Frame} {meth : Method} {c : Code} {cells slots : Nat} {G : AG} {Q : HP → State → Prop} (CX : am_X p l e R s m args below meth c cells slots G 3 cX1_becomes RX1 am_tb P_X1_becomes am_rV Q) {r : HP} : ∀ (n : Nat) (a1 : Nat) (a2 : Nat) (a3 : Int32) (h : HP), g_X1_becomes_65 n a1 a2 a3 h = some r → am_W p l e R s m args below meth c cells slots G 3 (Q r) 65 [.inr (.inr (.inl (1, a1))), .inr (.inr (.inl (1, a2))), .inl a3] [] h := by
  intro n
  induction n with
  | zero =>
    intro a1 a2 a3 h q
    have q9 : (none : Option HP) = some r := q
    cases q9
  | succ n ih =>
    intro a1 a2 a3 h q
    exact am_run_ok CX ok_X1_becomes (K := [(65, pk_X1_becomes_65 (g_X1_becomes_65 n))]) (am_K1 (Wp := am_W p l e R s m args below meth c cells slots G 3 (Q r)) (pk_X1_becomes_65_ok (Wp := am_W p l e R s m args below meth c cells slots G 3 (Q r) 65) ih) am_K0) 18 65 _ _ _ q
set_option maxRecDepth 20000 in
theorem w_X1_becomes_26 {p : Program} {l : Launch} {e : Env} {R : Room} {s : State} {m : MethodId} {args : Array Value} {below : List Frame} {meth : Method} {c : Code} {cells slots : Nat} {G : AG} {Q : HP → State → Prop} (CX : am_X p l e R s m args below meth c cells slots G 3 cX1_becomes RX1 am_tb P_X1_becomes am_rV Q) {r : HP} : ∀ (n : Nat) (a1 : Nat) (a2 : Nat) (a3 : Int32) (h : HP), g_X1_becomes_26 n a1 a2 a3 h = some r → am_W p l e R s m args below meth c cells slots G 3 (Q r) 26 [.inr (.inr (.inl (1, a1))), .inr (.inr (.inl (1, a2))), .inl a3] [] h := by
  intro n
  induction n with
  | zero =>
    intro a1 a2 a3 h q
    have q9 : (none : Option HP) = some r := q
    cases q9
  | succ n ih =>
    intro a1 a2 a3 h q
    exact am_run_ok CX ok_X1_becomes (K := [(65, pk_X1_becomes_65 (g_X1_becomes_65 am_fu)), (26, pk_X1_becomes_26 (g_X1_becomes_26 n))]) (am_K1 (Wp := am_W p l e R s m args below meth c cells slots G 3 (Q r)) (pk_X1_becomes_65_ok (Wp := am_W p l e R s m args below meth c cells slots G 3 (Q r) 65) (w_X1_becomes_65 CX am_fu)) (am_K1 (Wp := am_W p l e R s m args below meth c cells slots G 3 (Q r)) (pk_X1_becomes_26_ok (Wp := am_W p l e R s m args below meth c cells slots G 3 (Q r) 26) ih) am_K0)) 18 26 _ _ _ q
set_option maxRecDepth 20000 in
theorem b_X1_becomes (l : Launch) (G : AG) : am_B l G 3 cX1_becomes RX1 am_tb P_X1_becomes am_rV fl_X1_becomes := by
  intro p e R s m args below meth c cells slots Q CX as h r q
  unfold fl_X1_becomes at q
  split at q
  · exact am_run_ok CX ok_X1_becomes (K := [(26, pk_X1_becomes_26 (g_X1_becomes_26 am_fu))]) (am_K1 (Wp := am_W p l e R s m args below meth c cells slots G 3 (Q r)) (pk_X1_becomes_26_ok (Wp := am_W p l e R s m args below meth c cells slots G 3 (Q r) 26) (w_X1_becomes_26 CX am_fu)) am_K0) 17 0 _ _ _ q
  · cases q
theorem s_X1_becomes : ∀ as h x, fl_X1_becomes as h = some x → (∀ k, (some 1 : Option Nat) = some k → ∃ (j : Nat) (as' : List AV), as = .inr (.inr (.inl (k, j))) :: as') ∧ (am_l0 as).length ≤ 3 := by
  intro as h x q
  unfold fl_X1_becomes at q
  split at q
  · exact ⟨fun k e => by cases e; exact ⟨_, _, rfl⟩, Nat.le_of_ble_eq_true rfl⟩
  · cases q
theorem M_X1_becomes (l : Launch) (G : AG) : am_M l G yX1_becomes cX1_becomes 3 none 1 21 (some 1) F_X1_becomes := am_M_of (f := fl_X1_becomes) (toR := fun x => (none, x)) (P := P_X1_becomes) (Rr := am_rV) (own := RX1) (by decide) rfl (fun _ _ => rfl) s_X1_becomes am_wrV am_rkV pf_RX1 pk_RX1 ps_RX1 (List.forall_mem_cons.mpr ⟨cv_RX1_35 l G (by decide) (by decide), (List.forall_mem_cons.mpr ⟨cv_RX1_42 l G (by decide) (by decide), (fun _ q => by cases q)⟩)⟩) (fun _ q => by cases q) (fun _ q => by cases q) (b_X1_becomes l G)
def C_X1_hasHandle : List AC := [(0, .iload_n 1, 1, []), (1, .ifCond .lt 15, 4, [16]), (4, .iload_n 1, 5, []), (5, .aload_n 0, 6, []), (6, .getfield 32, 9, []), (9, .if_icmp .ge 7, 12, [16]), (12, .iconst 1, 13, []), (13, .goto 4, 16, [17]), (16, .iconst 0, 17, []), (17, .ireturn, 18, [])]
theorem ok_X1_hasHandle : ∀ x ∈ C_X1_hasHandle, am_ok cX1_hasHandle 2 x = true := by decide +kernel
noncomputable def P_X1_hasHandle : AP := (PF_RX1, PK_RX1, PS_RX1, [], [], [])
noncomputable def f_X1_hasHandle (a1 : Nat) (a2 : Int32) (h : HP) : Option (Int32 × HP) := if a2 < (0 : Int32) then (some (0, h)) else (if h_rI h 1 a1 3 ≤ a2 then (some (0, h)) else (some (1, h)))
noncomputable def fl_X1_hasHandle : List AV → HP → Option (Int32 × HP) := fun as h => match as with
  | [.inr (.inr (.inl (1, a1))), .inl a2] => f_X1_hasHandle a1 a2 h
  | _ => none
noncomputable def F_X1_hasHandle : AF := .inl fl_X1_hasHandle
set_option maxRecDepth 20000 in
theorem b_X1_hasHandle (l : Launch) (G : AG) : am_B l G 2 cX1_hasHandle RX1 am_tb P_X1_hasHandle am_rZ fl_X1_hasHandle := by
  intro p e R s m args below meth c cells slots Q CX as h r q
  unfold fl_X1_hasHandle at q
  split at q
  · exact am_run_ok CX ok_X1_hasHandle (K := []) (am_K0 (Wp := am_W p l e R s m args below meth c cells slots G 2 (Q r))) 12 0 _ _ _ q
  · cases q
theorem s_X1_hasHandle : ∀ as h x, fl_X1_hasHandle as h = some x → (∀ k, (some 1 : Option Nat) = some k → ∃ (j : Nat) (as' : List AV), as = .inr (.inr (.inl (k, j))) :: as') ∧ (am_l0 as).length ≤ 2 := by
  intro as h x q
  unfold fl_X1_hasHandle at q
  split at q
  · exact ⟨fun k e => by cases e; exact ⟨_, _, rfl⟩, Nat.le_of_ble_eq_true rfl⟩
  · cases q
theorem M_X1_hasHandle (l : Launch) (G : AG) : am_M l G yX1_hasHandle cX1_hasHandle 2 (some .boolean) 0 0 (some 1) F_X1_hasHandle := am_M_of (f := fl_X1_hasHandle) (toR := fun x => (some (.inl x.1), x.2)) (P := P_X1_hasHandle) (Rr := am_rZ) (own := RX1) (by decide) rfl (fun _ _ => rfl) s_X1_hasHandle am_wrI am_rkZ pf_RX1 pk_RX1 ps_RX1 (fun _ q => by cases q) (fun _ q => by cases q) (fun _ q => by cases q) (b_X1_hasHandle l G)
def C_X1_hasMember : List AC := [(0, .iload_n 1, 1, []), (1, .ifCond .lt 15, 4, [16]), (4, .iload_n 1, 5, []), (5, .aload_n 0, 6, []), (6, .getfield 39, 9, []), (9, .if_icmp .ge 7, 12, [16]), (12, .iconst 1, 13, []), (13, .goto 4, 16, [17]), (16, .iconst 0, 17, []), (17, .ireturn, 18, [])]
theorem ok_X1_hasMember : ∀ x ∈ C_X1_hasMember, am_ok cX1_hasMember 2 x = true := by decide +kernel
noncomputable def P_X1_hasMember : AP := (PF_RX1, PK_RX1, PS_RX1, [], [], [])
noncomputable def f_X1_hasMember (a1 : Nat) (a2 : Int32) (h : HP) : Option (Int32 × HP) := if a2 < (0 : Int32) then (some (0, h)) else (if h_rI h 1 a1 5 ≤ a2 then (some (0, h)) else (some (1, h)))
noncomputable def fl_X1_hasMember : List AV → HP → Option (Int32 × HP) := fun as h => match as with
  | [.inr (.inr (.inl (1, a1))), .inl a2] => f_X1_hasMember a1 a2 h
  | _ => none
noncomputable def F_X1_hasMember : AF := .inl fl_X1_hasMember
set_option maxRecDepth 20000 in
theorem b_X1_hasMember (l : Launch) (G : AG) : am_B l G 2 cX1_hasMember RX1 am_tb P_X1_hasMember am_rZ fl_X1_hasMember := by
  intro p e R s m args below meth c cells slots Q CX as h r q
  unfold fl_X1_hasMember at q
  split at q
  · exact am_run_ok CX ok_X1_hasMember (K := []) (am_K0 (Wp := am_W p l e R s m args below meth c cells slots G 2 (Q r))) 12 0 _ _ _ q
  · cases q
theorem s_X1_hasMember : ∀ as h x, fl_X1_hasMember as h = some x → (∀ k, (some 1 : Option Nat) = some k → ∃ (j : Nat) (as' : List AV), as = .inr (.inr (.inl (k, j))) :: as') ∧ (am_l0 as).length ≤ 2 := by
  intro as h x q
  unfold fl_X1_hasMember at q
  split at q
  · exact ⟨fun k e => by cases e; exact ⟨_, _, rfl⟩, Nat.le_of_ble_eq_true rfl⟩
  · cases q
theorem M_X1_hasMember (l : Launch) (G : AG) : am_M l G yX1_hasMember cX1_hasMember 2 (some .boolean) 0 0 (some 1) F_X1_hasMember := am_M_of (f := fl_X1_hasMember) (toR := fun x => (some (.inl x.1), x.2)) (P := P_X1_hasMember) (Rr := am_rZ) (own := RX1) (by decide) rfl (fun _ _ => rfl) s_X1_hasMember am_wrI am_rkZ pf_RX1 pk_RX1 ps_RX1 (fun _ q => by cases q) (fun _ q => by cases q) (fun _ q => by cases q) (b_X1_hasMember l G)
def C_X1_hasPlaceForHandle : List AC := [(0, .aload_n 0, 1, []), (1, .getfield 32, 4, []), (4, .bipush 8, 6, []), (6, .if_icmp .ge 7, 9, [13]), (9, .iconst 1, 10, []), (10, .goto 4, 13, [14]), (13, .iconst 0, 14, []), (14, .ireturn, 15, [])]
theorem ok_X1_hasPlaceForHandle : ∀ x ∈ C_X1_hasPlaceForHandle, am_ok cX1_hasPlaceForHandle 1 x = true := by decide +kernel
noncomputable def P_X1_hasPlaceForHandle : AP := (PF_RX1, PK_RX1, PS_RX1, [], [], [])
noncomputable def f_X1_hasPlaceForHandle (a1 : Nat) (h : HP) : Option (Int32 × HP) := if (8 : Int32) ≤ h_rI h 1 a1 3 then (some (0, h)) else (some (1, h))
noncomputable def fl_X1_hasPlaceForHandle : List AV → HP → Option (Int32 × HP) := fun as h => match as with
  | [.inr (.inr (.inl (1, a1)))] => f_X1_hasPlaceForHandle a1 h
  | _ => none
noncomputable def F_X1_hasPlaceForHandle : AF := .inl fl_X1_hasPlaceForHandle
set_option maxRecDepth 20000 in
theorem b_X1_hasPlaceForHandle (l : Launch) (G : AG) : am_B l G 1 cX1_hasPlaceForHandle RX1 am_tb P_X1_hasPlaceForHandle am_rZ fl_X1_hasPlaceForHandle := by
  intro p e R s m args below meth c cells slots Q CX as h r q
  unfold fl_X1_hasPlaceForHandle at q
  split at q
  · exact am_run_ok CX ok_X1_hasPlaceForHandle (K := []) (am_K0 (Wp := am_W p l e R s m args below meth c cells slots G 1 (Q r))) 10 0 _ _ _ q
  · cases q
theorem s_X1_hasPlaceForHandle : ∀ as h x, fl_X1_hasPlaceForHandle as h = some x → (∀ k, (some 1 : Option Nat) = some k → ∃ (j : Nat) (as' : List AV), as = .inr (.inr (.inl (k, j))) :: as') ∧ (am_l0 as).length ≤ 1 := by
  intro as h x q
  unfold fl_X1_hasPlaceForHandle at q
  split at q
  · exact ⟨fun k e => by cases e; exact ⟨_, _, rfl⟩, Nat.le_of_ble_eq_true rfl⟩
  · cases q
theorem M_X1_hasPlaceForHandle (l : Launch) (G : AG) : am_M l G yX1_hasPlaceForHandle cX1_hasPlaceForHandle 1 (some .boolean) 0 0 (some 1) F_X1_hasPlaceForHandle := am_M_of (f := fl_X1_hasPlaceForHandle) (toR := fun x => (some (.inl x.1), x.2)) (P := P_X1_hasPlaceForHandle) (Rr := am_rZ) (own := RX1) (by decide) rfl (fun _ _ => rfl) s_X1_hasPlaceForHandle am_wrI am_rkZ pf_RX1 pk_RX1 ps_RX1 (fun _ q => by cases q) (fun _ q => by cases q) (fun _ q => by cases q) (b_X1_hasPlaceForHandle l G)
def C_X1_hasPlaceForMember : List AC := [(0, .aload_n 0, 1, []), (1, .getfield 39, 4, []), (4, .bipush 6, 6, []), (6, .if_icmp .ge 7, 9, [13]), (9, .iconst 1, 10, []), (10, .goto 4, 13, [14]), (13, .iconst 0, 14, []), (14, .ireturn, 15, [])]
theorem ok_X1_hasPlaceForMember : ∀ x ∈ C_X1_hasPlaceForMember, am_ok cX1_hasPlaceForMember 1 x = true := by decide +kernel
noncomputable def P_X1_hasPlaceForMember : AP := (PF_RX1, PK_RX1, PS_RX1, [], [], [])
noncomputable def f_X1_hasPlaceForMember (a1 : Nat) (h : HP) : Option (Int32 × HP) := if (6 : Int32) ≤ h_rI h 1 a1 5 then (some (0, h)) else (some (1, h))
noncomputable def fl_X1_hasPlaceForMember : List AV → HP → Option (Int32 × HP) := fun as h => match as with
  | [.inr (.inr (.inl (1, a1)))] => f_X1_hasPlaceForMember a1 h
  | _ => none
noncomputable def F_X1_hasPlaceForMember : AF := .inl fl_X1_hasPlaceForMember
set_option maxRecDepth 20000 in
theorem b_X1_hasPlaceForMember (l : Launch) (G : AG) : am_B l G 1 cX1_hasPlaceForMember RX1 am_tb P_X1_hasPlaceForMember am_rZ fl_X1_hasPlaceForMember := by
  intro p e R s m args below meth c cells slots Q CX as h r q
  unfold fl_X1_hasPlaceForMember at q
  split at q
  · exact am_run_ok CX ok_X1_hasPlaceForMember (K := []) (am_K0 (Wp := am_W p l e R s m args below meth c cells slots G 1 (Q r))) 10 0 _ _ _ q
  · cases q
theorem s_X1_hasPlaceForMember : ∀ as h x, fl_X1_hasPlaceForMember as h = some x → (∀ k, (some 1 : Option Nat) = some k → ∃ (j : Nat) (as' : List AV), as = .inr (.inr (.inl (k, j))) :: as') ∧ (am_l0 as).length ≤ 1 := by
  intro as h x q
  unfold fl_X1_hasPlaceForMember at q
  split at q
  · exact ⟨fun k e => by cases e; exact ⟨_, _, rfl⟩, Nat.le_of_ble_eq_true rfl⟩
  · cases q
theorem M_X1_hasPlaceForMember (l : Launch) (G : AG) : am_M l G yX1_hasPlaceForMember cX1_hasPlaceForMember 1 (some .boolean) 0 0 (some 1) F_X1_hasPlaceForMember := am_M_of (f := fl_X1_hasPlaceForMember) (toR := fun x => (some (.inl x.1), x.2)) (P := P_X1_hasPlaceForMember) (Rr := am_rZ) (own := RX1) (by decide) rfl (fun _ _ => rfl) s_X1_hasPlaceForMember am_wrI am_rkZ pf_RX1 pk_RX1 ps_RX1 (fun _ q => by cases q) (fun _ q => by cases q) (fun _ q => by cases q) (b_X1_hasPlaceForMember l G)
def C_X1_addHandle : List AC := [(0, .aload_n 0, 1, []), (1, .getfield 17, 4, []), (4, .aload_n 0, 5, []), (5, .getfield 32, 8, []), (8, .aaload, 9, []), (9, .astore 5, 11, []), (11, .aload 5, 13, []), (13, .iload_n 1, 14, []), (14, .putfield 45, 17, []), (17, .aload 5, 19, []), (19, .iload_n 2, 20, []), (20, .putfield 48, 23, []), (23, .aload 5, 25, []), (25, .iload_n 3, 26, []), (26, .putfield 51, 29, []), (29, .aload 5, 31, []), (31, .iload 4, 33, []), (33, .putfield 54, 36, []), (36, .aload 5, 38, []), (38, .iconst (-1), 39, []), (39, .putfield 57, 42, []), (42, .aload 5, 44, []), (44, .iconst 0, 45, []), (45, .putfield 60, 48, []), (48, .aload_n 0, 49, []), (49, .dup, 50, []), (50, .getfield 32, 53, []), (53, .iconst 1, 54, []), (54, .iadd, 55, []), (55, .putfield 32, 58, []), (58, .aload_n 0, 59, []), (59, .getfield 32, 62, []), (62, .iconst 1, 63, []), (63, .isub, 64, []), (64, .ireturn, 65, [])]
theorem ok_X1_addHandle : ∀ x ∈ C_X1_addHandle, am_ok cX1_addHandle 6 x = true := by decide +kernel
noncomputable def P_X1_addHandle : AP := (PF_RX1, PK_RX1, PS_RX1, [], [], [])
noncomputable def f_X1_addHandle (a1 : Nat) (a2 : Int32) (a3 : Int32) (a4 : Int32) (a5 : Int32) (h : HP) : Option (Int32 × HP) := (am_ix (h_rI h 1 a1 3) 8).bind (fun k_1 => some ((h_rI (h_wI (h_wI (h_wI (h_wI (h_wI (h_wI (h_wI h 0 (8 * a1 + k_1) 0 a2) 0 (8 * a1 + k_1) 1 a3) 0 (8 * a1 + k_1) 2 a4) 0 (8 * a1 + k_1) 3 a5) 0 (8 * a1 + k_1) 4 ((-1))) 0 (8 * a1 + k_1) 5 0) 1 a1 3 ((h_rI (h_wI (h_wI (h_wI (h_wI (h_wI (h_wI h 0 (8 * a1 + k_1) 0 a2) 0 (8 * a1 + k_1) 1 a3) 0 (8 * a1 + k_1) 2 a4) 0 (8 * a1 + k_1) 3 a5) 0 (8 * a1 + k_1) 4 ((-1))) 0 (8 * a1 + k_1) 5 0) 1 a1 3) + 1)) 1 a1 3) - 1, h_wI (h_wI (h_wI (h_wI (h_wI (h_wI (h_wI h 0 (8 * a1 + k_1) 0 a2) 0 (8 * a1 + k_1) 1 a3) 0 (8 * a1 + k_1) 2 a4) 0 (8 * a1 + k_1) 3 a5) 0 (8 * a1 + k_1) 4 ((-1))) 0 (8 * a1 + k_1) 5 0) 1 a1 3 ((h_rI (h_wI (h_wI (h_wI (h_wI (h_wI (h_wI h 0 (8 * a1 + k_1) 0 a2) 0 (8 * a1 + k_1) 1 a3) 0 (8 * a1 + k_1) 2 a4) 0 (8 * a1 + k_1) 3 a5) 0 (8 * a1 + k_1) 4 ((-1))) 0 (8 * a1 + k_1) 5 0) 1 a1 3) + 1)))
noncomputable def fl_X1_addHandle : List AV → HP → Option (Int32 × HP) := fun as h => match as with
  | [.inr (.inr (.inl (1, a1))), .inl a2, .inl a3, .inl a4, .inl a5] => f_X1_addHandle a1 a2 a3 a4 a5 h
  | _ => none
noncomputable def F_X1_addHandle : AF := .inl fl_X1_addHandle
set_option maxRecDepth 20000 in
theorem b_X1_addHandle (l : Launch) (G : AG) : am_B l G 6 cX1_addHandle RX1 am_tb P_X1_addHandle am_rI fl_X1_addHandle := by
  intro p e R s m args below meth c cells slots Q CX as h r q
  unfold fl_X1_addHandle at q
  split at q
  · exact am_run_ok CX ok_X1_addHandle (K := []) (am_K0 (Wp := am_W p l e R s m args below meth c cells slots G 6 (Q r))) 38 0 _ _ _ q
  · cases q
theorem s_X1_addHandle : ∀ as h x, fl_X1_addHandle as h = some x → (∀ k, (some 1 : Option Nat) = some k → ∃ (j : Nat) (as' : List AV), as = .inr (.inr (.inl (k, j))) :: as') ∧ (am_l0 as).length ≤ 6 := by
  intro as h x q
  unfold fl_X1_addHandle at q
  split at q
  · exact ⟨fun k e => by cases e; exact ⟨_, _, rfl⟩, Nat.le_of_ble_eq_true rfl⟩
  · cases q
theorem M_X1_addHandle (l : Launch) (G : AG) : am_M l G yX1_addHandle cX1_addHandle 6 (some .int) 0 0 (some 1) F_X1_addHandle := am_M_of (f := fl_X1_addHandle) (toR := fun x => (some (.inl x.1), x.2)) (P := P_X1_addHandle) (Rr := am_rI) (own := RX1) (by decide) rfl (fun _ _ => rfl) s_X1_addHandle am_wrI am_rkI pf_RX1 pk_RX1 ps_RX1 (fun _ q => by cases q) (fun _ q => by cases q) (fun _ q => by cases q) (b_X1_addHandle l G)
def C_X1_addMember : List AC := [(0, .aload_n 0, 1, []), (1, .getfield 24, 4, []), (4, .aload_n 0, 5, []), (5, .getfield 39, 8, []), (8, .aaload, 9, []), (9, .iload_n 1, 10, []), (10, .putfield 63, 13, []), (13, .aload_n 0, 14, []), (14, .getfield 24, 17, []), (17, .aload_n 0, 18, []), (18, .getfield 39, 21, []), (21, .aaload, 22, []), (22, .iconst 0, 23, []), (23, .putfield 66, 26, []), (26, .aload_n 0, 27, []), (27, .dup, 28, []), (28, .getfield 39, 31, []), (31, .iconst 1, 32, []), (32, .iadd, 33, []), (33, .putfield 39, 36, []), (36, .aload_n 0, 37, []), (37, .getfield 39, 40, []), (40, .iconst 1, 41, []), (41, .isub, 42, []), (42, .ireturn, 43, [])]
theorem ok_X1_addMember : ∀ x ∈ C_X1_addMember, am_ok cX1_addMember 2 x = true := by decide +kernel
noncomputable def P_X1_addMember : AP := (PF_RX1, PK_RX1, PS_RX1, [], [], [])
noncomputable def f_X1_addMember (a1 : Nat) (a2 : Int32) (h : HP) : Option (Int32 × HP) := (am_ix (h_rI h 1 a1 5) 6).bind (fun k_1 => (am_ix (h_rI (h_wI h 2 (6 * a1 + k_1) 0 a2) 1 a1 5) 6).bind (fun k_2 => some ((h_rI (h_wI (h_wI (h_wI h 2 (6 * a1 + k_1) 0 a2) 2 (6 * a1 + k_2) 1 0) 1 a1 5 ((h_rI (h_wI (h_wI h 2 (6 * a1 + k_1) 0 a2) 2 (6 * a1 + k_2) 1 0) 1 a1 5) + 1)) 1 a1 5) - 1, h_wI (h_wI (h_wI h 2 (6 * a1 + k_1) 0 a2) 2 (6 * a1 + k_2) 1 0) 1 a1 5 ((h_rI (h_wI (h_wI h 2 (6 * a1 + k_1) 0 a2) 2 (6 * a1 + k_2) 1 0) 1 a1 5) + 1))))
noncomputable def fl_X1_addMember : List AV → HP → Option (Int32 × HP) := fun as h => match as with
  | [.inr (.inr (.inl (1, a1))), .inl a2] => f_X1_addMember a1 a2 h
  | _ => none
noncomputable def F_X1_addMember : AF := .inl fl_X1_addMember
set_option maxRecDepth 20000 in
theorem b_X1_addMember (l : Launch) (G : AG) : am_B l G 2 cX1_addMember RX1 am_tb P_X1_addMember am_rI fl_X1_addMember := by
  intro p e R s m args below meth c cells slots Q CX as h r q
  unfold fl_X1_addMember at q
  split at q
  · exact am_run_ok CX ok_X1_addMember (K := []) (am_K0 (Wp := am_W p l e R s m args below meth c cells slots G 2 (Q r))) 28 0 _ _ _ q
  · cases q
theorem s_X1_addMember : ∀ as h x, fl_X1_addMember as h = some x → (∀ k, (some 1 : Option Nat) = some k → ∃ (j : Nat) (as' : List AV), as = .inr (.inr (.inl (k, j))) :: as') ∧ (am_l0 as).length ≤ 2 := by
  intro as h x q
  unfold fl_X1_addMember at q
  split at q
  · exact ⟨fun k e => by cases e; exact ⟨_, _, rfl⟩, Nat.le_of_ble_eq_true rfl⟩
  · cases q
theorem M_X1_addMember (l : Launch) (G : AG) : am_M l G yX1_addMember cX1_addMember 2 (some .int) 0 0 (some 1) F_X1_addMember := am_M_of (f := fl_X1_addMember) (toR := fun x => (some (.inl x.1), x.2)) (P := P_X1_addMember) (Rr := am_rI) (own := RX1) (by decide) rfl (fun _ _ => rfl) s_X1_addMember am_wrI am_rkI pf_RX1 pk_RX1 ps_RX1 (fun _ q => by cases q) (fun _ q => by cases q) (fun _ q => by cases q) (b_X1_addMember l G)
theorem cv_RX1_69 (l : Launch) (G : AG) {fr lo : Nat} (h1 : 2 + 1 ≤ fr) (h2 : 8 + (9 + 11) + 43 ≤ lo) : am_cvOK l G RX1 fr lo (69, 4, F_X0_opensIn) := ⟨yX0_opensIn, cX0_opensIn, 9, (some .boolean), 2, 43, 0, RX0, M_X0_opensIn l G, ⟨(am_tb_mem (wd_6 _ (List.mem_of_getElem? (i := 0) rfl))), (am_tb_mem (wd_6 _ (List.mem_of_getElem? (i := 1) rfl))), (am_tb_mem (wd_6 _ (List.mem_of_getElem? (i := 2) rfl))), (am_tb_mem (wd_1 _ (List.mem_of_getElem? (i := 21) rfl))), (am_tb_mem (wd_6 _ (List.mem_of_getElem? (i := 3) rfl)))⟩, ⟨rfl, by decide, by decide, by decide +kernel⟩, Or.inl ⟨by decide, rfl⟩, h1, h2⟩
def C_X1_opensIn : List AC := [(0, .aload_n 0, 1, []), (1, .getfield 17, 4, []), (4, .iload_n 1, 5, []), (5, .aaload, 6, []), (6, .iload_n 2, 7, []), (7, .aload_n 0, 8, []), (8, .getfield 29, 11, []), (11, .aload_n 0, 12, []), (12, .getfield 9, 15, []), (15, .invokevirtual 69, 18, []), (18, .ireturn, 19, [])]
theorem ok_X1_opensIn : ∀ x ∈ C_X1_opensIn, am_ok cX1_opensIn 3 x = true := by decide +kernel
noncomputable def P_X1_opensIn : AP := (PF_RX1, PK_RX1, PS_RX1, [(69, 4, F_X0_opensIn)], [], [])
noncomputable def f_X1_opensIn (a1 : Nat) (a2 : Int32) (a3 : Int32) (h : HP) : Option (Int32 × HP) := (am_ix a2 8).bind (fun k_1 => (f_X0_opensIn (8 * a1 + k_1) a3 (h_rI h 1 a1 0) (h_rI h 1 a1 1) h).bind (fun q_2 => some (q_2.1 &&& 1, q_2.2)))
noncomputable def fl_X1_opensIn : List AV → HP → Option (Int32 × HP) := fun as h => match as with
  | [.inr (.inr (.inl (1, a1))), .inl a2, .inl a3] => f_X1_opensIn a1 a2 a3 h
  | _ => none
noncomputable def F_X1_opensIn : AF := .inl fl_X1_opensIn
set_option maxRecDepth 20000 in
theorem b_X1_opensIn (l : Launch) (G : AG) : am_B l G 3 cX1_opensIn RX1 am_tb P_X1_opensIn am_rZ fl_X1_opensIn := by
  intro p e R s m args below meth c cells slots Q CX as h r q
  unfold fl_X1_opensIn at q
  split at q
  · exact am_run_ok CX ok_X1_opensIn (K := []) (am_K0 (Wp := am_W p l e R s m args below meth c cells slots G 3 (Q r))) 14 0 _ _ _ q
  · cases q
theorem s_X1_opensIn : ∀ as h x, fl_X1_opensIn as h = some x → (∀ k, (some 1 : Option Nat) = some k → ∃ (j : Nat) (as' : List AV), as = .inr (.inr (.inl (k, j))) :: as') ∧ (am_l0 as).length ≤ 3 := by
  intro as h x q
  unfold fl_X1_opensIn at q
  split at q
  · exact ⟨fun k e => by cases e; exact ⟨_, _, rfl⟩, Nat.le_of_ble_eq_true rfl⟩
  · cases q
theorem M_X1_opensIn (l : Launch) (G : AG) : am_M l G yX1_opensIn cX1_opensIn 3 (some .boolean) 3 71 (some 1) F_X1_opensIn := am_M_of (f := fl_X1_opensIn) (toR := fun x => (some (.inl x.1), x.2)) (P := P_X1_opensIn) (Rr := am_rZ) (own := RX1) (by decide) rfl (fun _ _ => rfl) s_X1_opensIn am_wrI am_rkZ pf_RX1 pk_RX1 ps_RX1 (List.forall_mem_cons.mpr ⟨cv_RX1_69 l G (by decide) (by decide), (fun _ q => by cases q)⟩) (fun _ q => by cases q) (fun _ q => by cases q) (b_X1_opensIn l G)
theorem cv_RX1_73 (l : Launch) (G : AG) {fr lo : Nat} (h1 : 2 + 1 ≤ fr) (h2 : 8 + (4 + 11) + 43 ≤ lo) : am_cvOK l G RX1 fr lo (73, 3, F_X0_ledTo) := ⟨yX0_ledTo, cX0_ledTo, 4, (some .int), 2, 43, 0, RX0, M_X0_ledTo l G, ⟨(am_tb_mem (wd_6 _ (List.mem_of_getElem? (i := 13) rfl))), (am_tb_mem (wd_6 _ (List.mem_of_getElem? (i := 14) rfl))), (am_tb_mem (wd_6 _ (List.mem_of_getElem? (i := 15) rfl))), (am_tb_mem (wd_1 _ (List.mem_of_getElem? (i := 21) rfl))), (am_tb_mem (wd_6 _ (List.mem_of_getElem? (i := 16) rfl)))⟩, ⟨rfl, by decide, by decide, by decide +kernel⟩, Or.inl ⟨by decide, rfl⟩, h1, h2⟩
def C_X1_ledTo : List AC := [(0, .aload_n 0, 1, []), (1, .getfield 17, 4, []), (4, .iload_n 1, 5, []), (5, .aaload, 6, []), (6, .iload_n 2, 7, []), (7, .aload_n 0, 8, []), (8, .getfield 9, 11, []), (11, .invokevirtual 73, 14, []), (14, .ireturn, 15, [])]
theorem ok_X1_ledTo : ∀ x ∈ C_X1_ledTo, am_ok cX1_ledTo 3 x = true := by decide +kernel
noncomputable def P_X1_ledTo : AP := (PF_RX1, PK_RX1, PS_RX1, [(73, 3, F_X0_ledTo)], [], [])
noncomputable def f_X1_ledTo (a1 : Nat) (a2 : Int32) (a3 : Int32) (h : HP) : Option (Int32 × HP) := (am_ix a2 8).bind (fun k_1 => (f_X0_ledTo (8 * a1 + k_1) a3 (h_rI h 1 a1 1) h).bind (fun q_2 => some (q_2.1, q_2.2)))
noncomputable def fl_X1_ledTo : List AV → HP → Option (Int32 × HP) := fun as h => match as with
  | [.inr (.inr (.inl (1, a1))), .inl a2, .inl a3] => f_X1_ledTo a1 a2 a3 h
  | _ => none
noncomputable def F_X1_ledTo : AF := .inl fl_X1_ledTo
set_option maxRecDepth 20000 in
theorem b_X1_ledTo (l : Launch) (G : AG) : am_B l G 3 cX1_ledTo RX1 am_tb P_X1_ledTo am_rI fl_X1_ledTo := by
  intro p e R s m args below meth c cells slots Q CX as h r q
  unfold fl_X1_ledTo at q
  split at q
  · exact am_run_ok CX ok_X1_ledTo (K := []) (am_K0 (Wp := am_W p l e R s m args below meth c cells slots G 3 (Q r))) 12 0 _ _ _ q
  · cases q
theorem s_X1_ledTo : ∀ as h x, fl_X1_ledTo as h = some x → (∀ k, (some 1 : Option Nat) = some k → ∃ (j : Nat) (as' : List AV), as = .inr (.inr (.inl (k, j))) :: as') ∧ (am_l0 as).length ≤ 3 := by
  intro as h x q
  unfold fl_X1_ledTo at q
  split at q
  · exact ⟨fun k e => by cases e; exact ⟨_, _, rfl⟩, Nat.le_of_ble_eq_true rfl⟩
  · cases q
theorem M_X1_ledTo (l : Launch) (G : AG) : am_M l G yX1_ledTo cX1_ledTo 3 (some .int) 3 66 (some 1) F_X1_ledTo := am_M_of (f := fl_X1_ledTo) (toR := fun x => (some (.inl x.1), x.2)) (P := P_X1_ledTo) (Rr := am_rI) (own := RX1) (by decide) rfl (fun _ _ => rfl) s_X1_ledTo am_wrI am_rkI pf_RX1 pk_RX1 ps_RX1 (List.forall_mem_cons.mpr ⟨cv_RX1_73 l G (by decide) (by decide), (fun _ q => by cases q)⟩) (fun _ q => by cases q) (fun _ q => by cases q) (b_X1_ledTo l G)
def C_X1_holds : List AC := [(0, .aload_n 0, 1, []), (1, .getfield 17, 4, []), (4, .iload_n 2, 5, []), (5, .aaload, 6, []), (6, .getfield 57, 9, []), (9, .iload_n 1, 10, []), (10, .if_icmp .ne 7, 13, [17]), (13, .iconst 1, 14, []), (14, .goto 4, 17, [18]), (17, .iconst 0, 18, []), (18, .ireturn, 19, [])]
theorem ok_X1_holds : ∀ x ∈ C_X1_holds, am_ok cX1_holds 3 x = true := by decide +kernel
noncomputable def P_X1_holds : AP := (PF_RX1, PK_RX1, PS_RX1, [], [], [])
noncomputable def f_X1_holds (a1 : Nat) (a2 : Int32) (a3 : Int32) (h : HP) : Option (Int32 × HP) := (am_ix a3 8).bind (fun k_1 => if h_rI h 0 (8 * a1 + k_1) 4 = a2 then (some (1, h)) else (some (0, h)))
noncomputable def fl_X1_holds : List AV → HP → Option (Int32 × HP) := fun as h => match as with
  | [.inr (.inr (.inl (1, a1))), .inl a2, .inl a3] => f_X1_holds a1 a2 a3 h
  | _ => none
noncomputable def F_X1_holds : AF := .inl fl_X1_holds
set_option maxRecDepth 20000 in
theorem b_X1_holds (l : Launch) (G : AG) : am_B l G 3 cX1_holds RX1 am_tb P_X1_holds am_rZ fl_X1_holds := by
  intro p e R s m args below meth c cells slots Q CX as h r q
  unfold fl_X1_holds at q
  split at q
  · exact am_run_ok CX ok_X1_holds (K := []) (am_K0 (Wp := am_W p l e R s m args below meth c cells slots G 3 (Q r))) 13 0 _ _ _ q
  · cases q
theorem s_X1_holds : ∀ as h x, fl_X1_holds as h = some x → (∀ k, (some 1 : Option Nat) = some k → ∃ (j : Nat) (as' : List AV), as = .inr (.inr (.inl (k, j))) :: as') ∧ (am_l0 as).length ≤ 3 := by
  intro as h x q
  unfold fl_X1_holds at q
  split at q
  · exact ⟨fun k e => by cases e; exact ⟨_, _, rfl⟩, Nat.le_of_ble_eq_true rfl⟩
  · cases q
theorem M_X1_holds (l : Launch) (G : AG) : am_M l G yX1_holds cX1_holds 3 (some .boolean) 0 0 (some 1) F_X1_holds := am_M_of (f := fl_X1_holds) (toR := fun x => (some (.inl x.1), x.2)) (P := P_X1_holds) (Rr := am_rZ) (own := RX1) (by decide) rfl (fun _ _ => rfl) s_X1_holds am_wrI am_rkZ pf_RX1 pk_RX1 ps_RX1 (fun _ q => by cases q) (fun _ q => by cases q) (fun _ q => by cases q) (b_X1_holds l G)
theorem cv_RX1_77 (l : Launch) (G : AG) {fr lo : Nat} (h1 : 0 + 1 ≤ fr) (h2 : 8 + (3 + 11) + 0 ≤ lo) : am_cvOK l G RX1 fr lo (77, 3, F_X1_holds) := ⟨yX1_holds, cX1_holds, 3, (some .boolean), 0, 0, 1, RX1, M_X1_holds l G, ⟨(am_tb_mem (wd_7 _ (List.mem_of_getElem? (i := 9) rfl))), (am_tb_mem (wd_7 _ (List.mem_of_getElem? (i := 10) rfl))), (am_tb_mem (wd_7 _ (List.mem_of_getElem? (i := 11) rfl))), (am_tb_mem (wd_1 _ (List.mem_of_getElem? (i := 20) rfl))), (am_tb_mem (wd_7 _ (List.mem_of_getElem? (i := 12) rfl)))⟩, ⟨rfl, by decide, by decide, by decide +kernel⟩, Or.inl ⟨by decide, rfl⟩, h1, h2⟩
def C_X1_heldBy : List AC := [(0, .iconst 0, 1, []), (1, .istore_n 2, 2, []), (2, .iconst 0, 3, []), (3, .istore_n 3, 4, []), (4, .iload_n 3, 5, []), (5, .aload_n 0, 6, []), (6, .getfield 32, 9, []), (9, .if_icmp .ge 24, 12, [33]), (12, .aload_n 0, 13, []), (13, .iload_n 1, 14, []), (14, .iload_n 3, 15, []), (15, .invokevirtual 77, 18, []), (18, .ifCond .eq 9, 21, [27]), (21, .iload_n 2, 22, []), (22, .iconst 1, 23, []), (23, .iload_n 3, 24, []), (24, .ishl, 25, []), (25, .ior, 26, []), (26, .istore_n 2, 27, []), (27, .iinc 3 1, 30, []), (30, .goto (-26), 33, [4]), (33, .iload_n 2, 34, []), (34, .ireturn, 35, [])]
theorem ok_X1_heldBy : ∀ x ∈ C_X1_heldBy, am_ok cX1_heldBy 4 x = true := by decide +kernel
noncomputable def P_X1_heldBy : AP := (PF_RX1, PK_RX1, PS_RX1, [(77, 3, F_X1_holds)], [], [])
noncomputable def g_X1_heldBy_4  : Nat → Nat → Int32 → Int32 → Int32 → HP → Option (Int32 × HP)
  | 0, _, _, _, _, _ => none
  | n + 1, a1, a2, a3, a4, h => if h_rI h 1 a1 3 ≤ a4 then (some (a3, h)) else ((f_X1_holds a1 a2 a4 h).bind (fun q_1 => if q_1.1 = (0 : Int32) then (g_X1_heldBy_4 n a1 a2 a3 (a4 + 1) q_1.2) else (g_X1_heldBy_4 n a1 a2 (a3 ||| (1 <<< (a4 &&& 31))) (a4 + 1) q_1.2)))
def pk_X1_heldBy_4 (k : Nat → Int32 → Int32 → Int32 → HP → Option (Int32 × HP)) : List AV → List AV → HP → Option (Int32 × HP) := fun L st h => match L, st with
  | [.inr (.inr (.inl (1, a1))), .inl a2, .inl a3, .inl a4], [] => k a1 a2 a3 a4 h
  | _, _ => none
theorem pk_X1_heldBy_4_ok {Wp : List AV → List AV → HP → Prop} {r : (Int32 × HP)} {k : Nat → Int32 → Int32 → Int32 → HP → Option (Int32 × HP)} (hk : ∀ (a1 : Nat) (a2 : Int32) (a3 : Int32) (a4 : Int32) (h : HP), k a1 a2 a3 a4 h = some r → Wp [.inr (.inr (.inl (1, a1))), .inl a2, .inl a3, .inl a4] [] h) : ∀ L st h, pk_X1_heldBy_4 k L st h = some r → Wp L st h := by
  intro L st h q
  unfold pk_X1_heldBy_4 at q
  split at q
  · exact hk _ _ _ _ _ q
  · cases q
noncomputable def f_X1_heldBy (a1 : Nat) (a2 : Int32) (h : HP) : Option (Int32 × HP) := g_X1_heldBy_4 am_fu a1 a2 0 0 h
noncomputable def fl_X1_heldBy : List AV → HP → Option (Int32 × HP) := fun as h => match as with
  | [.inr (.inr (.inl (1, a1))), .inl a2] => f_X1_heldBy a1 a2 h
  | _ => none
noncomputable def F_X1_heldBy : AF := .inl fl_X1_heldBy
set_option maxRecDepth 20000 in
theorem w_X1_heldBy_4 {p : Program} {l : Launch} {e : Env} {R : Room} {s : State} {m : MethodId} {args : Array Value} {below : List Frame} {meth : Method} {c : Code} {cells slots : Nat} {G : AG} {Q : (Int32 × HP) → State → Prop} (CX : am_X p l e R s m args below meth c cells slots G 4 cX1_heldBy RX1 am_tb P_X1_heldBy am_rI Q) {r : (Int32 × HP)} : ∀ (n : Nat) (a1 : Nat) (a2 : Int32) (a3 : Int32) (a4 : Int32) (h : HP), g_X1_heldBy_4 n a1 a2 a3 a4 h = some r → am_W p l e R s m args below meth c cells slots G 4 (Q r) 4 [.inr (.inr (.inl (1, a1))), .inl a2, .inl a3, .inl a4] [] h := by
  intro n
  induction n with
  | zero =>
    intro a1 a2 a3 a4 h q
    have q9 : (none : Option (Int32 × HP)) = some r := q
    cases q9
  | succ n ih =>
    intro a1 a2 a3 a4 h q
    exact am_run_ok CX ok_X1_heldBy (K := [(4, pk_X1_heldBy_4 (g_X1_heldBy_4 n))]) (am_K1 (Wp := am_W p l e R s m args below meth c cells slots G 4 (Q r)) (pk_X1_heldBy_4_ok (Wp := am_W p l e R s m args below meth c cells slots G 4 (Q r) 4) ih) am_K0) 20 4 _ _ _ q
set_option maxRecDepth 20000 in
theorem b_X1_heldBy (l : Launch) (G : AG) : am_B l G 4 cX1_heldBy RX1 am_tb P_X1_heldBy am_rI fl_X1_heldBy := by
  intro p e R s m args below meth c cells slots Q CX as h r q
  unfold fl_X1_heldBy at q
  split at q
  · exact am_run_ok CX ok_X1_heldBy (K := [(4, pk_X1_heldBy_4 (g_X1_heldBy_4 am_fu))]) (am_K1 (Wp := am_W p l e R s m args below meth c cells slots G 4 (Q r)) (pk_X1_heldBy_4_ok (Wp := am_W p l e R s m args below meth c cells slots G 4 (Q r) 4) (w_X1_heldBy_4 CX am_fu)) am_K0) 7 0 _ _ _ q
  · cases q
theorem s_X1_heldBy : ∀ as h x, fl_X1_heldBy as h = some x → (∀ k, (some 1 : Option Nat) = some k → ∃ (j : Nat) (as' : List AV), as = .inr (.inr (.inl (k, j))) :: as') ∧ (am_l0 as).length ≤ 4 := by
  intro as h x q
  unfold fl_X1_heldBy at q
  split at q
  · exact ⟨fun k e => by cases e; exact ⟨_, _, rfl⟩, Nat.le_of_ble_eq_true rfl⟩
  · cases q
theorem M_X1_heldBy (l : Launch) (G : AG) : am_M l G yX1_heldBy cX1_heldBy 4 (some .int) 1 22 (some 1) F_X1_heldBy := am_M_of (f := fl_X1_heldBy) (toR := fun x => (some (.inl x.1), x.2)) (P := P_X1_heldBy) (Rr := am_rI) (own := RX1) (by decide) rfl (fun _ _ => rfl) s_X1_heldBy am_wrI am_rkI pf_RX1 pk_RX1 ps_RX1 (List.forall_mem_cons.mpr ⟨cv_RX1_77 l G (by decide) (by decide), (fun _ q => by cases q)⟩) (fun _ q => by cases q) (fun _ q => by cases q) (b_X1_heldBy l G)
theorem cv_RX1_81 (l : Launch) (G : AG) {fr lo : Nat} (h1 : 1 + 1 ≤ fr) (h2 : 8 + (4 + 11) + 22 ≤ lo) : am_cvOK l G RX1 fr lo (81, 2, F_X1_heldBy) := ⟨yX1_heldBy, cX1_heldBy, 4, (some .int), 1, 22, 1, RX1, M_X1_heldBy l G, ⟨(am_tb_mem (wd_8 _ (List.mem_of_getElem? (i := 3) rfl))), (am_tb_mem (wd_7 _ (List.mem_of_getElem? (i := 6) rfl))), (am_tb_mem (wd_7 _ (List.mem_of_getElem? (i := 7) rfl))), (am_tb_mem (wd_1 _ (List.mem_of_getElem? (i := 20) rfl))), (am_tb_mem (wd_7 _ (List.mem_of_getElem? (i := 8) rfl)))⟩, ⟨rfl, by decide, by decide, by decide +kernel⟩, Or.inl ⟨by decide, rfl⟩, h1, h2⟩
theorem cs_RX1_85 (l : Launch) (G : AG) {fr lo : Nat} (h1 : 0 + 1 ≤ fr) (h2 : 8 + (1 + 11) + 0 ≤ lo) : am_csOK l G RX1 fr lo (85, 1, F_J6_bitCount_0f7a4) := Or.inl ⟨yJ6_bitCount_0f7a4, cJ6_bitCount_0f7a4, 1, (some .int), 0, 0, M_J6_bitCount_0f7a4 l G, ⟨(am_tb_mem (wd_8 _ (List.mem_of_getElem? (i := 4) rfl))), (am_tb_mem (wd_8 _ (List.mem_of_getElem? (i := 5) rfl))), (am_tb_mem (wd_1 _ (List.mem_of_getElem? (i := 27) rfl))), (am_tb_mem (wd_8 _ (List.mem_of_getElem? (i := 6) rfl)))⟩, ⟨by decide, by decide, by decide +kernel⟩, h1, h2⟩
def C_X1_heldCount : List AC := [(0, .aload_n 0, 1, []), (1, .iload_n 1, 2, []), (2, .invokevirtual 81, 5, []), (5, .invokestatic 85, 8, []), (8, .ireturn, 9, [])]
theorem ok_X1_heldCount : ∀ x ∈ C_X1_heldCount, am_ok cX1_heldCount 2 x = true := by decide +kernel
noncomputable def P_X1_heldCount : AP := (PF_RX1, PK_RX1, PS_RX1, [(81, 2, F_X1_heldBy)], [(85, 1, F_J6_bitCount_0f7a4)], [])
noncomputable def f_X1_heldCount (a1 : Nat) (a2 : Int32) (h : HP) : Option (Int32 × HP) := (f_X1_heldBy a1 a2 h).bind (fun q_1 => (f_J6_bitCount_0f7a4 q_1.1 q_1.2).bind (fun q_2 => some (q_2.1, q_2.2)))
noncomputable def fl_X1_heldCount : List AV → HP → Option (Int32 × HP) := fun as h => match as with
  | [.inr (.inr (.inl (1, a1))), .inl a2] => f_X1_heldCount a1 a2 h
  | _ => none
noncomputable def F_X1_heldCount : AF := .inl fl_X1_heldCount
set_option maxRecDepth 20000 in
theorem b_X1_heldCount (l : Launch) (G : AG) : am_B l G 2 cX1_heldCount RX1 am_tb P_X1_heldCount am_rI fl_X1_heldCount := by
  intro p e R s m args below meth c cells slots Q CX as h r q
  unfold fl_X1_heldCount at q
  split at q
  · exact am_run_ok CX ok_X1_heldCount (K := []) (am_K0 (Wp := am_W p l e R s m args below meth c cells slots G 2 (Q r))) 8 0 _ _ _ q
  · cases q
theorem s_X1_heldCount : ∀ as h x, fl_X1_heldCount as h = some x → (∀ k, (some 1 : Option Nat) = some k → ∃ (j : Nat) (as' : List AV), as = .inr (.inr (.inl (k, j))) :: as') ∧ (am_l0 as).length ≤ 2 := by
  intro as h x q
  unfold fl_X1_heldCount at q
  split at q
  · exact ⟨fun k e => by cases e; exact ⟨_, _, rfl⟩, Nat.le_of_ble_eq_true rfl⟩
  · cases q
theorem M_X1_heldCount (l : Launch) (G : AG) : am_M l G yX1_heldCount cX1_heldCount 2 (some .int) 2 45 (some 1) F_X1_heldCount := am_M_of (f := fl_X1_heldCount) (toR := fun x => (some (.inl x.1), x.2)) (P := P_X1_heldCount) (Rr := am_rI) (own := RX1) (by decide) rfl (fun _ _ => rfl) s_X1_heldCount am_wrI am_rkI pf_RX1 pk_RX1 ps_RX1 (List.forall_mem_cons.mpr ⟨cv_RX1_81 l G (by decide) (by decide), (fun _ q => by cases q)⟩) (List.forall_mem_cons.mpr ⟨cs_RX1_85 l G (by decide) (by decide), (fun _ q => by cases q)⟩) (fun _ q => by cases q) (b_X1_heldCount l G)
theorem cv_RX1_90 (l : Launch) (G : AG) {fr lo : Nat} (h1 : 3 + 1 ≤ fr) (h2 : 8 + (3 + 11) + 71 ≤ lo) : am_cvOK l G RX1 fr lo (90, 3, F_X1_opensIn) := ⟨yX1_opensIn, cX1_opensIn, 3, (some .boolean), 3, 71, 1, RX1, M_X1_opensIn l G, ⟨(am_tb_mem (wd_7 _ (List.mem_of_getElem? (i := 17) rfl))), (am_tb_mem (wd_5 _ (List.mem_of_getElem? (i := 37) rfl))), (am_tb_mem (wd_5 _ (List.mem_of_getElem? (i := 38) rfl))), (am_tb_mem (wd_1 _ (List.mem_of_getElem? (i := 20) rfl))), (am_tb_mem (wd_5 _ (List.mem_of_getElem? (i := 39) rfl)))⟩, ⟨rfl, by decide, by decide, by decide +kernel⟩, Or.inl ⟨by decide, rfl⟩, h1, h2⟩
def C_X1_openTo : List AC := [(0, .iconst 0, 1, []), (1, .istore_n 2, 2, []), (2, .iconst 0, 3, []), (3, .istore_n 3, 4, []), (4, .iload_n 3, 5, []), (5, .aload_n 0, 6, []), (6, .getfield 32, 9, []), (9, .if_icmp .ge 41, 12, [50]), (12, .aload_n 0, 13, []), (13, .iload_n 1, 14, []), (14, .iload_n 3, 15, []), (15, .invokevirtual 77, 18, []), (18, .ifCond .eq 26, 21, [44]), (21, .aload_n 0, 22, []), (22, .iload_n 3, 23, []), (23, .aload_n 0, 24, []), (24, .getfield 24, 27, []), (27, .iload_n 1, 28, []), (28, .aaload, 29, []), (29, .getfield 63, 32, []), (32, .invokevirtual 90, 35, []), (35, .ifCond .eq 9, 38, [44]), (38, .iload_n 2, 39, []), (39, .iconst 1, 40, []), (40, .iload_n 3, 41, []), (41, .ishl, 42, []), (42, .ior, 43, []), (43, .istore_n 2, 44, []), (44, .iinc 3 1, 47, []), (47, .goto (-43), 50, [4]), (50, .iload_n 2, 51, []), (51, .ireturn, 52, [])]
theorem ok_X1_openTo : ∀ x ∈ C_X1_openTo, am_ok cX1_openTo 4 x = true := by decide +kernel
noncomputable def P_X1_openTo : AP := (PF_RX1, PK_RX1, PS_RX1, [(77, 3, F_X1_holds), (90, 3, F_X1_opensIn)], [], [])
noncomputable def g_X1_openTo_4  : Nat → Nat → Int32 → Int32 → Int32 → HP → Option (Int32 × HP)
  | 0, _, _, _, _, _ => none
  | n + 1, a1, a2, a3, a4, h => if h_rI h 1 a1 3 ≤ a4 then (some (a3, h)) else ((f_X1_holds a1 a2 a4 h).bind (fun q_1 => if q_1.1 = (0 : Int32) then (g_X1_openTo_4 n a1 a2 a3 (a4 + 1) q_1.2) else ((am_ix a2 6).bind (fun k_2 => (f_X1_opensIn a1 a4 (h_rI q_1.2 2 (6 * a1 + k_2) 0) q_1.2).bind (fun q_3 => if q_3.1 = (0 : Int32) then (g_X1_openTo_4 n a1 a2 a3 (a4 + 1) q_3.2) else (g_X1_openTo_4 n a1 a2 (a3 ||| (1 <<< (a4 &&& 31))) (a4 + 1) q_3.2))))))
def pk_X1_openTo_4 (k : Nat → Int32 → Int32 → Int32 → HP → Option (Int32 × HP)) : List AV → List AV → HP → Option (Int32 × HP) := fun L st h => match L, st with
  | [.inr (.inr (.inl (1, a1))), .inl a2, .inl a3, .inl a4], [] => k a1 a2 a3 a4 h
  | _, _ => none
theorem pk_X1_openTo_4_ok {Wp : List AV → List AV → HP → Prop} {r : (Int32 × HP)} {k : Nat → Int32 → Int32 → Int32 → HP → Option (Int32 × HP)} (hk : ∀ (a1 : Nat) (a2 : Int32) (a3 : Int32) (a4 : Int32) (h : HP), k a1 a2 a3 a4 h = some r → Wp [.inr (.inr (.inl (1, a1))), .inl a2, .inl a3, .inl a4] [] h) : ∀ L st h, pk_X1_openTo_4 k L st h = some r → Wp L st h := by
  intro L st h q
  unfold pk_X1_openTo_4 at q
  split at q
  · exact hk _ _ _ _ _ q
  · cases q
noncomputable def f_X1_openTo (a1 : Nat) (a2 : Int32) (h : HP) : Option (Int32 × HP) := g_X1_openTo_4 am_fu a1 a2 0 0 h
noncomputable def fl_X1_openTo : List AV → HP → Option (Int32 × HP) := fun as h => match as with
  | [.inr (.inr (.inl (1, a1))), .inl a2] => f_X1_openTo a1 a2 h
  | _ => none
noncomputable def F_X1_openTo : AF := .inl fl_X1_openTo
set_option maxRecDepth 20000 in
theorem w_X1_openTo_4 {p : Program} {l : Launch} {e : Env} {R : Room} {s : State} {m : MethodId} {args : Array Value} {below : List Frame} {meth : Method} {c : Code} {cells slots : Nat} {G : AG} {Q : (Int32 × HP) → State → Prop} (CX : am_X p l e R s m args below meth c cells slots G 4 cX1_openTo RX1 am_tb P_X1_openTo am_rI Q) {r : (Int32 × HP)} : ∀ (n : Nat) (a1 : Nat) (a2 : Int32) (a3 : Int32) (a4 : Int32) (h : HP), g_X1_openTo_4 n a1 a2 a3 a4 h = some r → am_W p l e R s m args below meth c cells slots G 4 (Q r) 4 [.inr (.inr (.inl (1, a1))), .inl a2, .inl a3, .inl a4] [] h := by
  intro n
  induction n with
  | zero =>
    intro a1 a2 a3 a4 h q
    have q9 : (none : Option (Int32 × HP)) = some r := q
    cases q9
  | succ n ih =>
    intro a1 a2 a3 a4 h q
    exact am_run_ok CX ok_X1_openTo (K := [(4, pk_X1_openTo_4 (g_X1_openTo_4 n))]) (am_K1 (Wp := am_W p l e R s m args below meth c cells slots G 4 (Q r)) (pk_X1_openTo_4_ok (Wp := am_W p l e R s m args below meth c cells slots G 4 (Q r) 4) ih) am_K0) 29 4 _ _ _ q
set_option maxRecDepth 20000 in
theorem b_X1_openTo (l : Launch) (G : AG) : am_B l G 4 cX1_openTo RX1 am_tb P_X1_openTo am_rI fl_X1_openTo := by
  intro p e R s m args below meth c cells slots Q CX as h r q
  unfold fl_X1_openTo at q
  split at q
  · exact am_run_ok CX ok_X1_openTo (K := [(4, pk_X1_openTo_4 (g_X1_openTo_4 am_fu))]) (am_K1 (Wp := am_W p l e R s m args below meth c cells slots G 4 (Q r)) (pk_X1_openTo_4_ok (Wp := am_W p l e R s m args below meth c cells slots G 4 (Q r) 4) (w_X1_openTo_4 CX am_fu)) am_K0) 7 0 _ _ _ q
  · cases q
theorem s_X1_openTo : ∀ as h x, fl_X1_openTo as h = some x → (∀ k, (some 1 : Option Nat) = some k → ∃ (j : Nat) (as' : List AV), as = .inr (.inr (.inl (k, j))) :: as') ∧ (am_l0 as).length ≤ 4 := by
  intro as h x q
  unfold fl_X1_openTo at q
  split at q
  · exact ⟨fun k e => by cases e; exact ⟨_, _, rfl⟩, Nat.le_of_ble_eq_true rfl⟩
  · cases q
theorem M_X1_openTo (l : Launch) (G : AG) : am_M l G yX1_openTo cX1_openTo 4 (some .int) 4 93 (some 1) F_X1_openTo := am_M_of (f := fl_X1_openTo) (toR := fun x => (some (.inl x.1), x.2)) (P := P_X1_openTo) (Rr := am_rI) (own := RX1) (by decide) rfl (fun _ _ => rfl) s_X1_openTo am_wrI am_rkI pf_RX1 pk_RX1 ps_RX1 (List.forall_mem_cons.mpr ⟨cv_RX1_77 l G (by decide) (by decide), (List.forall_mem_cons.mpr ⟨cv_RX1_90 l G (by decide) (by decide), (fun _ q => by cases q)⟩)⟩) (fun _ q => by cases q) (fun _ q => by cases q) (b_X1_openTo l G)
theorem cv_RX1_92 (l : Launch) (G : AG) {fr lo : Nat} (h1 : 0 + 1 ≤ fr) (h2 : 8 + (1 + 11) + 0 ≤ lo) : am_cvOK l G RX1 fr lo (92, 1, F_X0_isLent) := ⟨yX0_isLent, cX0_isLent, 1, (some .boolean), 0, 0, 0, RX0, M_X0_isLent l G, ⟨(am_tb_mem (wd_9 _ (List.mem_of_getElem? (i := 9) rfl))), (am_tb_mem (wd_7 _ (List.mem_of_getElem? (i := 31) rfl))), (am_tb_mem (wd_7 _ (List.mem_of_getElem? (i := 32) rfl))), (am_tb_mem (wd_1 _ (List.mem_of_getElem? (i := 21) rfl))), (am_tb_mem (wd_7 _ (List.mem_of_getElem? (i := 33) rfl)))⟩, ⟨rfl, by decide, by decide, by decide +kernel⟩, Or.inl ⟨by decide, rfl⟩, h1, h2⟩
def C_X1_allLent : List AC := [(0, .iconst 0, 1, []), (1, .istore_n 1, 2, []), (2, .iconst 0, 3, []), (3, .istore_n 2, 4, []), (4, .iload_n 2, 5, []), (5, .aload_n 0, 6, []), (6, .getfield 32, 9, []), (9, .if_icmp .ge 27, 12, [36]), (12, .aload_n 0, 13, []), (13, .getfield 17, 16, []), (16, .iload_n 2, 17, []), (17, .aaload, 18, []), (18, .invokevirtual 92, 21, []), (21, .ifCond .eq 9, 24, [30]), (24, .iload_n 1, 25, []), (25, .iconst 1, 26, []), (26, .iload_n 2, 27, []), (27, .ishl, 28, []), (28, .ior, 29, []), (29, .istore_n 1, 30, []), (30, .iinc 2 1, 33, []), (33, .goto (-29), 36, [4]), (36, .iload_n 1, 37, []), (37, .ireturn, 38, [])]
theorem ok_X1_allLent : ∀ x ∈ C_X1_allLent, am_ok cX1_allLent 3 x = true := by decide +kernel
noncomputable def P_X1_allLent : AP := (PF_RX1, PK_RX1, PS_RX1, [(92, 1, F_X0_isLent)], [], [])
noncomputable def g_X1_allLent_4  : Nat → Nat → Int32 → Int32 → HP → Option (Int32 × HP)
  | 0, _, _, _, _ => none
  | n + 1, a1, a2, a3, h => if h_rI h 1 a1 3 ≤ a3 then (some (a2, h)) else ((am_ix a3 8).bind (fun k_1 => (f_X0_isLent (8 * a1 + k_1) h).bind (fun q_2 => if q_2.1 = (0 : Int32) then (g_X1_allLent_4 n a1 a2 (a3 + 1) q_2.2) else (g_X1_allLent_4 n a1 (a2 ||| (1 <<< (a3 &&& 31))) (a3 + 1) q_2.2))))
def pk_X1_allLent_4 (k : Nat → Int32 → Int32 → HP → Option (Int32 × HP)) : List AV → List AV → HP → Option (Int32 × HP) := fun L st h => match L, st with
  | [.inr (.inr (.inl (1, a1))), .inl a2, .inl a3], [] => k a1 a2 a3 h
  | _, _ => none
theorem pk_X1_allLent_4_ok {Wp : List AV → List AV → HP → Prop} {r : (Int32 × HP)} {k : Nat → Int32 → Int32 → HP → Option (Int32 × HP)} (hk : ∀ (a1 : Nat) (a2 : Int32) (a3 : Int32) (h : HP), k a1 a2 a3 h = some r → Wp [.inr (.inr (.inl (1, a1))), .inl a2, .inl a3] [] h) : ∀ L st h, pk_X1_allLent_4 k L st h = some r → Wp L st h := by
  intro L st h q
  unfold pk_X1_allLent_4 at q
  split at q
  · exact hk _ _ _ _ q
  · cases q
noncomputable def f_X1_allLent (a1 : Nat) (h : HP) : Option (Int32 × HP) := g_X1_allLent_4 am_fu a1 0 0 h
noncomputable def fl_X1_allLent : List AV → HP → Option (Int32 × HP) := fun as h => match as with
  | [.inr (.inr (.inl (1, a1)))] => f_X1_allLent a1 h
  | _ => none
noncomputable def F_X1_allLent : AF := .inl fl_X1_allLent
set_option maxRecDepth 20000 in
theorem w_X1_allLent_4 {p : Program} {l : Launch} {e : Env} {R : Room} {s : State} {m : MethodId} {args : Array Value} {below : List Frame} {meth : Method} {c : Code} {cells slots : Nat} {G : AG} {Q : (Int32 × HP) → State → Prop} (CX : am_X p l e R s m args below meth c cells slots G 3 cX1_allLent RX1 am_tb P_X1_allLent am_rI Q) {r : (Int32 × HP)} : ∀ (n : Nat) (a1 : Nat) (a2 : Int32) (a3 : Int32) (h : HP), g_X1_allLent_4 n a1 a2 a3 h = some r → am_W p l e R s m args below meth c cells slots G 3 (Q r) 4 [.inr (.inr (.inl (1, a1))), .inl a2, .inl a3] [] h := by
  intro n
  induction n with
  | zero =>
    intro a1 a2 a3 h q
    have q9 : (none : Option (Int32 × HP)) = some r := q
    cases q9
  | succ n ih =>
    intro a1 a2 a3 h q
    exact am_run_ok CX ok_X1_allLent (K := [(4, pk_X1_allLent_4 (g_X1_allLent_4 n))]) (am_K1 (Wp := am_W p l e R s m args below meth c cells slots G 3 (Q r)) (pk_X1_allLent_4_ok (Wp := am_W p l e R s m args below meth c cells slots G 3 (Q r) 4) ih) am_K0) 21 4 _ _ _ q
set_option maxRecDepth 20000 in
theorem b_X1_allLent (l : Launch) (G : AG) : am_B l G 3 cX1_allLent RX1 am_tb P_X1_allLent am_rI fl_X1_allLent := by
  intro p e R s m args below meth c cells slots Q CX as h r q
  unfold fl_X1_allLent at q
  split at q
  · exact am_run_ok CX ok_X1_allLent (K := [(4, pk_X1_allLent_4 (g_X1_allLent_4 am_fu))]) (am_K1 (Wp := am_W p l e R s m args below meth c cells slots G 3 (Q r)) (pk_X1_allLent_4_ok (Wp := am_W p l e R s m args below meth c cells slots G 3 (Q r) 4) (w_X1_allLent_4 CX am_fu)) am_K0) 7 0 _ _ _ q
  · cases q
theorem s_X1_allLent : ∀ as h x, fl_X1_allLent as h = some x → (∀ k, (some 1 : Option Nat) = some k → ∃ (j : Nat) (as' : List AV), as = .inr (.inr (.inl (k, j))) :: as') ∧ (am_l0 as).length ≤ 3 := by
  intro as h x q
  unfold fl_X1_allLent at q
  split at q
  · exact ⟨fun k e => by cases e; exact ⟨_, _, rfl⟩, Nat.le_of_ble_eq_true rfl⟩
  · cases q
theorem M_X1_allLent (l : Launch) (G : AG) : am_M l G yX1_allLent cX1_allLent 3 (some .int) 1 20 (some 1) F_X1_allLent := am_M_of (f := fl_X1_allLent) (toR := fun x => (some (.inl x.1), x.2)) (P := P_X1_allLent) (Rr := am_rI) (own := RX1) (by decide) rfl (fun _ _ => rfl) s_X1_allLent am_wrI am_rkI pf_RX1 pk_RX1 ps_RX1 (List.forall_mem_cons.mpr ⟨cv_RX1_92 l G (by decide) (by decide), (fun _ q => by cases q)⟩) (fun _ q => by cases q) (fun _ q => by cases q) (b_X1_allLent l G)
theorem cv_RX1_96 (l : Launch) (G : AG) {fr lo : Nat} (h1 : 0 + 1 ≤ fr) (h2 : 8 + (2 + 11) + 0 ≤ lo) : am_cvOK l G RX1 fr lo (96, 2, F_X0_isLate) := ⟨yX0_isLate, cX0_isLate, 2, (some .boolean), 0, 0, 0, RX0, M_X0_isLate l G, ⟨(am_tb_mem (wd_9 _ (List.mem_of_getElem? (i := 26) rfl))), (am_tb_mem (wd_5 _ (List.mem_of_getElem? (i := 0) rfl))), (am_tb_mem (wd_5 _ (List.mem_of_getElem? (i := 1) rfl))), (am_tb_mem (wd_1 _ (List.mem_of_getElem? (i := 21) rfl))), (am_tb_mem (wd_5 _ (List.mem_of_getElem? (i := 2) rfl)))⟩, ⟨rfl, by decide, by decide, by decide +kernel⟩, Or.inl ⟨by decide, rfl⟩, h1, h2⟩
def C_X1_allLate : List AC := [(0, .iconst 0, 1, []), (1, .istore_n 1, 2, []), (2, .iconst 0, 3, []), (3, .istore_n 2, 4, []), (4, .iload_n 2, 5, []), (5, .aload_n 0, 6, []), (6, .getfield 32, 9, []), (9, .if_icmp .ge 31, 12, [40]), (12, .aload_n 0, 13, []), (13, .getfield 17, 16, []), (16, .iload_n 2, 17, []), (17, .aaload, 18, []), (18, .aload_n 0, 19, []), (19, .getfield 9, 22, []), (22, .invokevirtual 96, 25, []), (25, .ifCond .eq 9, 28, [34]), (28, .iload_n 1, 29, []), (29, .iconst 1, 30, []), (30, .iload_n 2, 31, []), (31, .ishl, 32, []), (32, .ior, 33, []), (33, .istore_n 1, 34, []), (34, .iinc 2 1, 37, []), (37, .goto (-33), 40, [4]), (40, .iload_n 1, 41, []), (41, .ireturn, 42, [])]
theorem ok_X1_allLate : ∀ x ∈ C_X1_allLate, am_ok cX1_allLate 3 x = true := by decide +kernel
noncomputable def P_X1_allLate : AP := (PF_RX1, PK_RX1, PS_RX1, [(96, 2, F_X0_isLate)], [], [])
noncomputable def g_X1_allLate_4  : Nat → Nat → Int32 → Int32 → HP → Option (Int32 × HP)
  | 0, _, _, _, _ => none
  | n + 1, a1, a2, a3, h => if h_rI h 1 a1 3 ≤ a3 then (some (a2, h)) else ((am_ix a3 8).bind (fun k_1 => (f_X0_isLate (8 * a1 + k_1) (h_rI h 1 a1 1) h).bind (fun q_2 => if q_2.1 = (0 : Int32) then (g_X1_allLate_4 n a1 a2 (a3 + 1) q_2.2) else (g_X1_allLate_4 n a1 (a2 ||| (1 <<< (a3 &&& 31))) (a3 + 1) q_2.2))))
def pk_X1_allLate_4 (k : Nat → Int32 → Int32 → HP → Option (Int32 × HP)) : List AV → List AV → HP → Option (Int32 × HP) := fun L st h => match L, st with
  | [.inr (.inr (.inl (1, a1))), .inl a2, .inl a3], [] => k a1 a2 a3 h
  | _, _ => none
theorem pk_X1_allLate_4_ok {Wp : List AV → List AV → HP → Prop} {r : (Int32 × HP)} {k : Nat → Int32 → Int32 → HP → Option (Int32 × HP)} (hk : ∀ (a1 : Nat) (a2 : Int32) (a3 : Int32) (h : HP), k a1 a2 a3 h = some r → Wp [.inr (.inr (.inl (1, a1))), .inl a2, .inl a3] [] h) : ∀ L st h, pk_X1_allLate_4 k L st h = some r → Wp L st h := by
  intro L st h q
  unfold pk_X1_allLate_4 at q
  split at q
  · exact hk _ _ _ _ q
  · cases q
noncomputable def f_X1_allLate (a1 : Nat) (h : HP) : Option (Int32 × HP) := g_X1_allLate_4 am_fu a1 0 0 h
noncomputable def fl_X1_allLate : List AV → HP → Option (Int32 × HP) := fun as h => match as with
  | [.inr (.inr (.inl (1, a1)))] => f_X1_allLate a1 h
  | _ => none
noncomputable def F_X1_allLate : AF := .inl fl_X1_allLate
set_option maxRecDepth 20000 in
theorem w_X1_allLate_4 {p : Program} {l : Launch} {e : Env} {R : Room} {s : State} {m : MethodId} {args : Array Value} {below : List Frame} {meth : Method} {c : Code} {cells slots : Nat} {G : AG} {Q : (Int32 × HP) → State → Prop} (CX : am_X p l e R s m args below meth c cells slots G 3 cX1_allLate RX1 am_tb P_X1_allLate am_rI Q) {r : (Int32 × HP)} : ∀ (n : Nat) (a1 : Nat) (a2 : Int32) (a3 : Int32) (h : HP), g_X1_allLate_4 n a1 a2 a3 h = some r → am_W p l e R s m args below meth c cells slots G 3 (Q r) 4 [.inr (.inr (.inl (1, a1))), .inl a2, .inl a3] [] h := by
  intro n
  induction n with
  | zero =>
    intro a1 a2 a3 h q
    have q9 : (none : Option (Int32 × HP)) = some r := q
    cases q9
  | succ n ih =>
    intro a1 a2 a3 h q
    exact am_run_ok CX ok_X1_allLate (K := [(4, pk_X1_allLate_4 (g_X1_allLate_4 n))]) (am_K1 (Wp := am_W p l e R s m args below meth c cells slots G 3 (Q r)) (pk_X1_allLate_4_ok (Wp := am_W p l e R s m args below meth c cells slots G 3 (Q r) 4) ih) am_K0) 23 4 _ _ _ q
set_option maxRecDepth 20000 in
theorem b_X1_allLate (l : Launch) (G : AG) : am_B l G 3 cX1_allLate RX1 am_tb P_X1_allLate am_rI fl_X1_allLate := by
  intro p e R s m args below meth c cells slots Q CX as h r q
  unfold fl_X1_allLate at q
  split at q
  · exact am_run_ok CX ok_X1_allLate (K := [(4, pk_X1_allLate_4 (g_X1_allLate_4 am_fu))]) (am_K1 (Wp := am_W p l e R s m args below meth c cells slots G 3 (Q r)) (pk_X1_allLate_4_ok (Wp := am_W p l e R s m args below meth c cells slots G 3 (Q r) 4) (w_X1_allLate_4 CX am_fu)) am_K0) 7 0 _ _ _ q
  · cases q
theorem s_X1_allLate : ∀ as h x, fl_X1_allLate as h = some x → (∀ k, (some 1 : Option Nat) = some k → ∃ (j : Nat) (as' : List AV), as = .inr (.inr (.inl (k, j))) :: as') ∧ (am_l0 as).length ≤ 3 := by
  intro as h x q
  unfold fl_X1_allLate at q
  split at q
  · exact ⟨fun k e => by cases e; exact ⟨_, _, rfl⟩, Nat.le_of_ble_eq_true rfl⟩
  · cases q
theorem M_X1_allLate (l : Launch) (G : AG) : am_M l G yX1_allLate cX1_allLate 3 (some .int) 1 21 (some 1) F_X1_allLate := am_M_of (f := fl_X1_allLate) (toR := fun x => (some (.inl x.1), x.2)) (P := P_X1_allLate) (Rr := am_rI) (own := RX1) (by decide) rfl (fun _ _ => rfl) s_X1_allLate am_wrI am_rkI pf_RX1 pk_RX1 ps_RX1 (List.forall_mem_cons.mpr ⟨cv_RX1_96 l G (by decide) (by decide), (fun _ q => by cases q)⟩) (fun _ q => by cases q) (fun _ q => by cases q) (b_X1_allLate l G)
def C_X1_allWear : List AC := [(0, .iconst 0, 1, []), (1, .istore_n 1, 2, []), (2, .iconst 0, 3, []), (3, .istore_n 2, 4, []), (4, .iload_n 2, 5, []), (5, .aload_n 0, 6, []), (6, .getfield 32, 9, []), (9, .if_icmp .ge 21, 12, [30]), (12, .iload_n 1, 13, []), (13, .aload_n 0, 14, []), (14, .getfield 17, 17, []), (17, .iload_n 2, 18, []), (18, .aaload, 19, []), (19, .getfield 54, 22, []), (22, .iadd, 23, []), (23, .istore_n 1, 24, []), (24, .iinc 2 1, 27, []), (27, .goto (-23), 30, [4]), (30, .iload_n 1, 31, []), (31, .ireturn, 32, [])]
theorem ok_X1_allWear : ∀ x ∈ C_X1_allWear, am_ok cX1_allWear 3 x = true := by decide +kernel
noncomputable def P_X1_allWear : AP := (PF_RX1, PK_RX1, PS_RX1, [], [], [])
noncomputable def g_X1_allWear_4  : Nat → Nat → Int32 → Int32 → HP → Option (Int32 × HP)
  | 0, _, _, _, _ => none
  | n + 1, a1, a2, a3, h => if h_rI h 1 a1 3 ≤ a3 then (some (a2, h)) else ((am_ix a3 8).bind (fun k_1 => g_X1_allWear_4 n a1 (a2 + (h_rI h 0 (8 * a1 + k_1) 3)) (a3 + 1) h))
def pk_X1_allWear_4 (k : Nat → Int32 → Int32 → HP → Option (Int32 × HP)) : List AV → List AV → HP → Option (Int32 × HP) := fun L st h => match L, st with
  | [.inr (.inr (.inl (1, a1))), .inl a2, .inl a3], [] => k a1 a2 a3 h
  | _, _ => none
theorem pk_X1_allWear_4_ok {Wp : List AV → List AV → HP → Prop} {r : (Int32 × HP)} {k : Nat → Int32 → Int32 → HP → Option (Int32 × HP)} (hk : ∀ (a1 : Nat) (a2 : Int32) (a3 : Int32) (h : HP), k a1 a2 a3 h = some r → Wp [.inr (.inr (.inl (1, a1))), .inl a2, .inl a3] [] h) : ∀ L st h, pk_X1_allWear_4 k L st h = some r → Wp L st h := by
  intro L st h q
  unfold pk_X1_allWear_4 at q
  split at q
  · exact hk _ _ _ _ q
  · cases q
noncomputable def f_X1_allWear (a1 : Nat) (h : HP) : Option (Int32 × HP) := g_X1_allWear_4 am_fu a1 0 0 h
noncomputable def fl_X1_allWear : List AV → HP → Option (Int32 × HP) := fun as h => match as with
  | [.inr (.inr (.inl (1, a1)))] => f_X1_allWear a1 h
  | _ => none
noncomputable def F_X1_allWear : AF := .inl fl_X1_allWear
set_option maxRecDepth 20000 in
theorem w_X1_allWear_4 {p : Program} {l : Launch} {e : Env} {R : Room} {s : State} {m : MethodId} {args : Array Value} {below : List Frame} {meth : Method} {c : Code} {cells slots : Nat} {G : AG} {Q : (Int32 × HP) → State → Prop} (CX : am_X p l e R s m args below meth c cells slots G 3 cX1_allWear RX1 am_tb P_X1_allWear am_rI Q) {r : (Int32 × HP)} : ∀ (n : Nat) (a1 : Nat) (a2 : Int32) (a3 : Int32) (h : HP), g_X1_allWear_4 n a1 a2 a3 h = some r → am_W p l e R s m args below meth c cells slots G 3 (Q r) 4 [.inr (.inr (.inl (1, a1))), .inl a2, .inl a3] [] h := by
  intro n
  induction n with
  | zero =>
    intro a1 a2 a3 h q
    have q9 : (none : Option (Int32 × HP)) = some r := q
    cases q9
  | succ n ih =>
    intro a1 a2 a3 h q
    exact am_run_ok CX ok_X1_allWear (K := [(4, pk_X1_allWear_4 (g_X1_allWear_4 n))]) (am_K1 (Wp := am_W p l e R s m args below meth c cells slots G 3 (Q r)) (pk_X1_allWear_4_ok (Wp := am_W p l e R s m args below meth c cells slots G 3 (Q r) 4) ih) am_K0) 17 4 _ _ _ q
set_option maxRecDepth 20000 in
theorem b_X1_allWear (l : Launch) (G : AG) : am_B l G 3 cX1_allWear RX1 am_tb P_X1_allWear am_rI fl_X1_allWear := by
  intro p e R s m args below meth c cells slots Q CX as h r q
  unfold fl_X1_allWear at q
  split at q
  · exact am_run_ok CX ok_X1_allWear (K := [(4, pk_X1_allWear_4 (g_X1_allWear_4 am_fu))]) (am_K1 (Wp := am_W p l e R s m args below meth c cells slots G 3 (Q r)) (pk_X1_allWear_4_ok (Wp := am_W p l e R s m args below meth c cells slots G 3 (Q r) 4) (w_X1_allWear_4 CX am_fu)) am_K0) 7 0 _ _ _ q
  · cases q
theorem s_X1_allWear : ∀ as h x, fl_X1_allWear as h = some x → (∀ k, (some 1 : Option Nat) = some k → ∃ (j : Nat) (as' : List AV), as = .inr (.inr (.inl (k, j))) :: as') ∧ (am_l0 as).length ≤ 3 := by
  intro as h x q
  unfold fl_X1_allWear at q
  split at q
  · exact ⟨fun k e => by cases e; exact ⟨_, _, rfl⟩, Nat.le_of_ble_eq_true rfl⟩
  · cases q
theorem M_X1_allWear (l : Launch) (G : AG) : am_M l G yX1_allWear cX1_allWear 3 (some .int) 0 0 (some 1) F_X1_allWear := am_M_of (f := fl_X1_allWear) (toR := fun x => (some (.inl x.1), x.2)) (P := P_X1_allWear) (Rr := am_rI) (own := RX1) (by decide) rfl (fun _ _ => rfl) s_X1_allWear am_wrI am_rkI pf_RX1 pk_RX1 ps_RX1 (fun _ q => by cases q) (fun _ q => by cases q) (fun _ q => by cases q) (b_X1_allWear l G)
def C_X1_allFines : List AC := [(0, .iconst 0, 1, []), (1, .istore_n 1, 2, []), (2, .iconst 0, 3, []), (3, .istore_n 2, 4, []), (4, .iload_n 2, 5, []), (5, .aload_n 0, 6, []), (6, .getfield 39, 9, []), (9, .if_icmp .ge 21, 12, [30]), (12, .iload_n 1, 13, []), (13, .aload_n 0, 14, []), (14, .getfield 24, 17, []), (17, .iload_n 2, 18, []), (18, .aaload, 19, []), (19, .getfield 66, 22, []), (22, .iadd, 23, []), (23, .istore_n 1, 24, []), (24, .iinc 2 1, 27, []), (27, .goto (-23), 30, [4]), (30, .iload_n 1, 31, []), (31, .ireturn, 32, [])]
theorem ok_X1_allFines : ∀ x ∈ C_X1_allFines, am_ok cX1_allFines 3 x = true := by decide +kernel
noncomputable def P_X1_allFines : AP := (PF_RX1, PK_RX1, PS_RX1, [], [], [])
noncomputable def g_X1_allFines_4  : Nat → Nat → Int32 → Int32 → HP → Option (Int32 × HP)
  | 0, _, _, _, _ => none
  | n + 1, a1, a2, a3, h => if h_rI h 1 a1 5 ≤ a3 then (some (a2, h)) else ((am_ix a3 6).bind (fun k_1 => g_X1_allFines_4 n a1 (a2 + (h_rI h 2 (6 * a1 + k_1) 1)) (a3 + 1) h))
def pk_X1_allFines_4 (k : Nat → Int32 → Int32 → HP → Option (Int32 × HP)) : List AV → List AV → HP → Option (Int32 × HP) := fun L st h => match L, st with
  | [.inr (.inr (.inl (1, a1))), .inl a2, .inl a3], [] => k a1 a2 a3 h
  | _, _ => none
theorem pk_X1_allFines_4_ok {Wp : List AV → List AV → HP → Prop} {r : (Int32 × HP)} {k : Nat → Int32 → Int32 → HP → Option (Int32 × HP)} (hk : ∀ (a1 : Nat) (a2 : Int32) (a3 : Int32) (h : HP), k a1 a2 a3 h = some r → Wp [.inr (.inr (.inl (1, a1))), .inl a2, .inl a3] [] h) : ∀ L st h, pk_X1_allFines_4 k L st h = some r → Wp L st h := by
  intro L st h q
  unfold pk_X1_allFines_4 at q
  split at q
  · exact hk _ _ _ _ q
  · cases q
noncomputable def f_X1_allFines (a1 : Nat) (h : HP) : Option (Int32 × HP) := g_X1_allFines_4 am_fu a1 0 0 h
noncomputable def fl_X1_allFines : List AV → HP → Option (Int32 × HP) := fun as h => match as with
  | [.inr (.inr (.inl (1, a1)))] => f_X1_allFines a1 h
  | _ => none
noncomputable def F_X1_allFines : AF := .inl fl_X1_allFines
set_option maxRecDepth 20000 in
theorem w_X1_allFines_4 {p : Program} {l : Launch} {e : Env} {R : Room} {s : State} {m : MethodId} {args : Array Value} {below : List Frame} {meth : Method} {c : Code} {cells slots : Nat} {G : AG} {Q : (Int32 × HP) → State → Prop} (CX : am_X p l e R s m args below meth c cells slots G 3 cX1_allFines RX1 am_tb P_X1_allFines am_rI Q) {r : (Int32 × HP)} : ∀ (n : Nat) (a1 : Nat) (a2 : Int32) (a3 : Int32) (h : HP), g_X1_allFines_4 n a1 a2 a3 h = some r → am_W p l e R s m args below meth c cells slots G 3 (Q r) 4 [.inr (.inr (.inl (1, a1))), .inl a2, .inl a3] [] h := by
  intro n
  induction n with
  | zero =>
    intro a1 a2 a3 h q
    have q9 : (none : Option (Int32 × HP)) = some r := q
    cases q9
  | succ n ih =>
    intro a1 a2 a3 h q
    exact am_run_ok CX ok_X1_allFines (K := [(4, pk_X1_allFines_4 (g_X1_allFines_4 n))]) (am_K1 (Wp := am_W p l e R s m args below meth c cells slots G 3 (Q r)) (pk_X1_allFines_4_ok (Wp := am_W p l e R s m args below meth c cells slots G 3 (Q r) 4) ih) am_K0) 17 4 _ _ _ q
set_option maxRecDepth 20000 in
theorem b_X1_allFines (l : Launch) (G : AG) : am_B l G 3 cX1_allFines RX1 am_tb P_X1_allFines am_rI fl_X1_allFines := by
  intro p e R s m args below meth c cells slots Q CX as h r q
  unfold fl_X1_allFines at q
  split at q
  · exact am_run_ok CX ok_X1_allFines (K := [(4, pk_X1_allFines_4 (g_X1_allFines_4 am_fu))]) (am_K1 (Wp := am_W p l e R s m args below meth c cells slots G 3 (Q r)) (pk_X1_allFines_4_ok (Wp := am_W p l e R s m args below meth c cells slots G 3 (Q r) 4) (w_X1_allFines_4 CX am_fu)) am_K0) 7 0 _ _ _ q
  · cases q
theorem s_X1_allFines : ∀ as h x, fl_X1_allFines as h = some x → (∀ k, (some 1 : Option Nat) = some k → ∃ (j : Nat) (as' : List AV), as = .inr (.inr (.inl (k, j))) :: as') ∧ (am_l0 as).length ≤ 3 := by
  intro as h x q
  unfold fl_X1_allFines at q
  split at q
  · exact ⟨fun k e => by cases e; exact ⟨_, _, rfl⟩, Nat.le_of_ble_eq_true rfl⟩
  · cases q
theorem M_X1_allFines (l : Launch) (G : AG) : am_M l G yX1_allFines cX1_allFines 3 (some .int) 0 0 (some 1) F_X1_allFines := am_M_of (f := fl_X1_allFines) (toR := fun x => (some (.inl x.1), x.2)) (P := P_X1_allFines) (Rr := am_rI) (own := RX1) (by decide) rfl (fun _ _ => rfl) s_X1_allFines am_wrI am_rkI pf_RX1 pk_RX1 ps_RX1 (fun _ q => by cases q) (fun _ q => by cases q) (fun _ q => by cases q) (b_X1_allFines l G)
theorem cv_RX1_100 (l : Launch) (G : AG) {fr lo : Nat} (h1 : 0 + 1 ≤ fr) (h2 : 8 + (2 + 11) + 0 ≤ lo) : am_cvOK l G RX1 fr lo (100, 2, F_X0_isPairOf) := ⟨yX0_isPairOf, cX0_isPairOf, 2, (some .boolean), 0, 0, 0, RX0, M_X0_isPairOf l G, ⟨(am_tb_mem (wd_8 _ (List.mem_of_getElem? (i := 14) rfl))), (am_tb_mem (wd_6 _ (List.mem_of_getElem? (i := 22) rfl))), (am_tb_mem (wd_6 _ (List.mem_of_getElem? (i := 23) rfl))), (am_tb_mem (wd_1 _ (List.mem_of_getElem? (i := 21) rfl))), (am_tb_mem (wd_6 _ (List.mem_of_getElem? (i := 24) rfl)))⟩, ⟨rfl, by decide, by decide, by decide +kernel⟩, Or.inl ⟨by decide, rfl⟩, h1, h2⟩
def C_X1_pairCount : List AC := [(0, .iconst 0, 1, []), (1, .istore_n 1, 2, []), (2, .iconst 0, 3, []), (3, .istore_n 2, 4, []), (4, .iload_n 2, 5, []), (5, .aload_n 0, 6, []), (6, .getfield 32, 9, []), (9, .if_icmp .ge 48, 12, [57]), (12, .iload_n 2, 13, []), (13, .iconst 1, 14, []), (14, .iadd, 15, []), (15, .istore_n 3, 16, []), (16, .iload_n 3, 17, []), (17, .aload_n 0, 18, []), (18, .getfield 32, 21, []), (21, .if_icmp .ge 30, 24, [51]), (24, .aload_n 0, 25, []), (25, .getfield 17, 28, []), (28, .iload_n 2, 29, []), (29, .aaload, 30, []), (30, .aload_n 0, 31, []), (31, .getfield 17, 34, []), (34, .iload_n 3, 35, []), (35, .aaload, 36, []), (36, .invokevirtual 100, 39, []), (39, .ifCond .eq 6, 42, [45]), (42, .iinc 1 1, 45, []), (45, .iinc 3 1, 48, []), (48, .goto (-32), 51, [16]), (51, .iinc 2 1, 54, []), (54, .goto (-50), 57, [4]), (57, .iload_n 1, 58, []), (58, .ireturn, 59, [])]
theorem ok_X1_pairCount : ∀ x ∈ C_X1_pairCount, am_ok cX1_pairCount 4 x = true := by decide +kernel
noncomputable def P_X1_pairCount : AP := (PF_RX1, PK_RX1, PS_RX1, [(100, 2, F_X0_isPairOf)], [], [])
noncomputable def g_X1_pairCount_16 (k4 : Nat → Int32 → Int32 → HP → Option (Int32 × HP))  : Nat → Nat → Int32 → Int32 → Int32 → HP → Option (Int32 × HP)
  | 0, _, _, _, _, _ => none
  | n + 1, a1, a2, a3, a4, h => if h_rI h 1 a1 3 ≤ a4 then (k4 a1 a2 (a3 + 1) h) else ((am_ix a3 8).bind (fun k_1 => (am_ix a4 8).bind (fun k_2 => (f_X0_isPairOf (8 * a1 + k_1) (8 * a1 + k_2) h).bind (fun q_3 => if q_3.1 = (0 : Int32) then (g_X1_pairCount_16 k4 n a1 a2 a3 (a4 + 1) q_3.2) else (g_X1_pairCount_16 k4 n a1 (a2 + 1) a3 (a4 + 1) q_3.2)))))
def pk_X1_pairCount_16 (k : Nat → Int32 → Int32 → Int32 → HP → Option (Int32 × HP)) : List AV → List AV → HP → Option (Int32 × HP) := fun L st h => match L, st with
  | [.inr (.inr (.inl (1, a1))), .inl a2, .inl a3, .inl a4], [] => k a1 a2 a3 a4 h
  | _, _ => none
theorem pk_X1_pairCount_16_ok {Wp : List AV → List AV → HP → Prop} {r : (Int32 × HP)} {k : Nat → Int32 → Int32 → Int32 → HP → Option (Int32 × HP)} (hk : ∀ (a1 : Nat) (a2 : Int32) (a3 : Int32) (a4 : Int32) (h : HP), k a1 a2 a3 a4 h = some r → Wp [.inr (.inr (.inl (1, a1))), .inl a2, .inl a3, .inl a4] [] h) : ∀ L st h, pk_X1_pairCount_16 k L st h = some r → Wp L st h := by
  intro L st h q
  unfold pk_X1_pairCount_16 at q
  split at q
  · exact hk _ _ _ _ _ q
  · cases q
noncomputable def g_X1_pairCount_4  : Nat → Nat → Int32 → Int32 → HP → Option (Int32 × HP)
  | 0, _, _, _, _ => none
  | n + 1, a1, a2, a3, h => if h_rI h 1 a1 3 ≤ a3 then (some (a2, h)) else (g_X1_pairCount_16 (g_X1_pairCount_4 n) am_fu a1 a2 a3 (a3 + 1) h)
def pk_X1_pairCount_4 (k : Nat → Int32 → Int32 → HP → Option (Int32 × HP)) : List AV → List AV → HP → Option (Int32 × HP) := fun L st h => match L, st with
  | [.inr (.inr (.inl (1, a1))), .inl a2, .inl a3, _], [] => k a1 a2 a3 h
  | _, _ => none
theorem pk_X1_pairCount_4_ok {Wp : List AV → List AV → HP → Prop} {r : (Int32 × HP)} {k : Nat → Int32 → Int32 → HP → Option (Int32 × HP)} (hk : ∀ (a1 : Nat) (a2 : Int32) (a3 : Int32) (w1 : AV) (h : HP), k a1 a2 a3 h = some r → Wp [.inr (.inr (.inl (1, a1))), .inl a2, .inl a3, w1] [] h) : ∀ L st h, pk_X1_pairCount_4 k L st h = some r → Wp L st h := by
  intro L st h q
  unfold pk_X1_pairCount_4 at q
  split at q
  · exact hk _ _ _ _ _ q
  · cases q
noncomputable def f_X1_pairCount (a1 : Nat) (h : HP) : Option (Int32 × HP) := g_X1_pairCount_4 am_fu a1 0 0 h
noncomputable def fl_X1_pairCount : List AV → HP → Option (Int32 × HP) := fun as h => match as with
  | [.inr (.inr (.inl (1, a1)))] => f_X1_pairCount a1 h
  | _ => none
noncomputable def F_X1_pairCount : AF := .inl fl_X1_pairCount
set_option maxRecDepth 20000 in
theorem w_X1_pairCount_16 {p : Program} {l : Launch} {e : Env} {R : Room} {s : State} {m : MethodId} {args : Array Value} {below : List Frame} {meth : Method} {c : Code} {cells slots : Nat} {G : AG} {Q : (Int32 × HP) → State → Prop} (CX : am_X p l e R s m args below meth c cells slots G 4 cX1_pairCount RX1 am_tb P_X1_pairCount am_rI Q) {r : (Int32 × HP)} {k4 : Nat → Int32 → Int32 → HP → Option (Int32 × HP)} (hk4 : ∀ (a1 : Nat) (a2 : Int32) (a3 : Int32) (w1 : AV) (h : HP), k4 a1 a2 a3 h = some r → am_W p l e R s m args below meth c cells slots G 4 (Q r) 4 [.inr (.inr (.inl (1, a1))), .inl a2, .inl a3, w1] [] h) : ∀ (n : Nat) (a1 : Nat) (a2 : Int32) (a3 : Int32) (a4 : Int32) (h : HP), g_X1_pairCount_16 k4 n a1 a2 a3 a4 h = some r → am_W p l e R s m args below meth c cells slots G 4 (Q r) 16 [.inr (.inr (.inl (1, a1))), .inl a2, .inl a3, .inl a4] [] h := by
  intro n
  induction n with
  | zero =>
    intro a1 a2 a3 a4 h q
    have q9 : (none : Option (Int32 × HP)) = some r := q
    cases q9
  | succ n ih =>
    intro a1 a2 a3 a4 h q
    exact am_run_ok CX ok_X1_pairCount (K := [(4, pk_X1_pairCount_4 (k4)), (16, pk_X1_pairCount_16 (g_X1_pairCount_16 k4 n))]) (am_K1 (Wp := am_W p l e R s m args below meth c cells slots G 4 (Q r)) (pk_X1_pairCount_4_ok (Wp := am_W p l e R s m args below meth c cells slots G 4 (Q r) 4) hk4) (am_K1 (Wp := am_W p l e R s m args below meth c cells slots G 4 (Q r)) (pk_X1_pairCount_16_ok (Wp := am_W p l e R s m args below meth c cells slots G 4 (Q r) 16) ih) am_K0)) 20 16 _ _ _ q
set_option maxRecDepth 20000 in
theorem w_X1_pairCount_4 {p : Program} {l : Launch} {e : Env} {R : Room} {s : State} {m : MethodId} {args : Array Value} {below : List Frame} {meth : Method} {c : Code} {cells slots : Nat} {G : AG} {Q : (Int32 × HP) → State → Prop} (CX : am_X p l e R s m args below meth c cells slots G 4 cX1_pairCount RX1 am_tb P_X1_pairCount am_rI Q) {r : (Int32 × HP)} : ∀ (n : Nat) (a1 : Nat) (a2 : Int32) (a3 : Int32) (w1 : AV) (h : HP), g_X1_pairCount_4 n a1 a2 a3 h = some r → am_W p l e R s m args below meth c cells slots G 4 (Q r) 4 [.inr (.inr (.inl (1, a1))), .inl a2, .inl a3, w1] [] h := by
  intro n
  induction n with
  | zero =>
    intro a1 a2 a3 w1 h q
    have q9 : (none : Option (Int32 × HP)) = some r := q
    cases q9
  | succ n ih =>
    intro a1 a2 a3 w1 h q
    exact am_run_ok CX ok_X1_pairCount (K := [(16, pk_X1_pairCount_16 (g_X1_pairCount_16 (g_X1_pairCount_4 n) am_fu))]) (am_K1 (Wp := am_W p l e R s m args below meth c cells slots G 4 (Q r)) (pk_X1_pairCount_16_ok (Wp := am_W p l e R s m args below meth c cells slots G 4 (Q r) 16) (w_X1_pairCount_16 CX ih am_fu)) am_K0) 11 4 _ _ _ q
set_option maxRecDepth 20000 in
theorem b_X1_pairCount (l : Launch) (G : AG) : am_B l G 4 cX1_pairCount RX1 am_tb P_X1_pairCount am_rI fl_X1_pairCount := by
  intro p e R s m args below meth c cells slots Q CX as h r q
  unfold fl_X1_pairCount at q
  split at q
  · exact am_run_ok CX ok_X1_pairCount (K := [(4, pk_X1_pairCount_4 (g_X1_pairCount_4 am_fu))]) (am_K1 (Wp := am_W p l e R s m args below meth c cells slots G 4 (Q r)) (pk_X1_pairCount_4_ok (Wp := am_W p l e R s m args below meth c cells slots G 4 (Q r) 4) (w_X1_pairCount_4 CX am_fu)) am_K0) 7 0 _ _ _ q
  · cases q
theorem s_X1_pairCount : ∀ as h x, fl_X1_pairCount as h = some x → (∀ k, (some 1 : Option Nat) = some k → ∃ (j : Nat) (as' : List AV), as = .inr (.inr (.inl (k, j))) :: as') ∧ (am_l0 as).length ≤ 4 := by
  intro as h x q
  unfold fl_X1_pairCount at q
  split at q
  · exact ⟨fun k e => by cases e; exact ⟨_, _, rfl⟩, Nat.le_of_ble_eq_true rfl⟩
  · cases q
theorem M_X1_pairCount (l : Launch) (G : AG) : am_M l G yX1_pairCount cX1_pairCount 4 (some .int) 1 21 (some 1) F_X1_pairCount := am_M_of (f := fl_X1_pairCount) (toR := fun x => (some (.inl x.1), x.2)) (P := P_X1_pairCount) (Rr := am_rI) (own := RX1) (by decide) rfl (fun _ _ => rfl) s_X1_pairCount am_wrI am_rkI pf_RX1 pk_RX1 ps_RX1 (List.forall_mem_cons.mpr ⟨cv_RX1_100 l G (by decide) (by decide), (fun _ q => by cases q)⟩) (fun _ q => by cases q) (fun _ q => by cases q) (b_X1_pairCount l G)
theorem cv_RX1_104 (l : Launch) (G : AG) {fr lo : Nat} (h1 : 2 + 1 ≤ fr) (h2 : 8 + (2 + 11) + 45 ≤ lo) : am_cvOK l G RX1 fr lo (104, 2, F_X1_heldCount) := ⟨yX1_heldCount, cX1_heldCount, 2, (some .int), 2, 45, 1, RX1, M_X1_heldCount l G, ⟨(am_tb_mem (wd_7 _ (List.mem_of_getElem? (i := 39) rfl))), (am_tb_mem (wd_8 _ (List.mem_of_getElem? (i := 0) rfl))), (am_tb_mem (wd_8 _ (List.mem_of_getElem? (i := 1) rfl))), (am_tb_mem (wd_1 _ (List.mem_of_getElem? (i := 20) rfl))), (am_tb_mem (wd_8 _ (List.mem_of_getElem? (i := 2) rfl)))⟩, ⟨rfl, by decide, by decide, by decide +kernel⟩, Or.inl ⟨by decide, rfl⟩, h1, h2⟩
def C_X1_hasHandsFull : List AC := [(0, .aload_n 0, 1, []), (1, .iload_n 1, 2, []), (2, .invokevirtual 104, 5, []), (5, .iconst 3, 6, []), (6, .if_icmp .lt 7, 9, [13]), (9, .iconst 1, 10, []), (10, .goto 4, 13, [14]), (13, .iconst 0, 14, []), (14, .ireturn, 15, [])]
theorem ok_X1_hasHandsFull : ∀ x ∈ C_X1_hasHandsFull, am_ok cX1_hasHandsFull 2 x = true := by decide +kernel
noncomputable def P_X1_hasHandsFull : AP := (PF_RX1, PK_RX1, PS_RX1, [(104, 2, F_X1_heldCount)], [], [])
noncomputable def f_X1_hasHandsFull (a1 : Nat) (a2 : Int32) (h : HP) : Option (Int32 × HP) := (f_X1_heldCount a1 a2 h).bind (fun q_1 => if q_1.1 < (3 : Int32) then (some (0, q_1.2)) else (some (1, q_1.2)))
noncomputable def fl_X1_hasHandsFull : List AV → HP → Option (Int32 × HP) := fun as h => match as with
  | [.inr (.inr (.inl (1, a1))), .inl a2] => f_X1_hasHandsFull a1 a2 h
  | _ => none
noncomputable def F_X1_hasHandsFull : AF := .inl fl_X1_hasHandsFull
set_option maxRecDepth 20000 in
theorem b_X1_hasHandsFull (l : Launch) (G : AG) : am_B l G 2 cX1_hasHandsFull RX1 am_tb P_X1_hasHandsFull am_rZ fl_X1_hasHandsFull := by
  intro p e R s m args below meth c cells slots Q CX as h r q
  unfold fl_X1_hasHandsFull at q
  split at q
  · exact am_run_ok CX ok_X1_hasHandsFull (K := []) (am_K0 (Wp := am_W p l e R s m args below meth c cells slots G 2 (Q r))) 11 0 _ _ _ q
  · cases q
theorem s_X1_hasHandsFull : ∀ as h x, fl_X1_hasHandsFull as h = some x → (∀ k, (some 1 : Option Nat) = some k → ∃ (j : Nat) (as' : List AV), as = .inr (.inr (.inl (k, j))) :: as') ∧ (am_l0 as).length ≤ 2 := by
  intro as h x q
  unfold fl_X1_hasHandsFull at q
  split at q
  · exact ⟨fun k e => by cases e; exact ⟨_, _, rfl⟩, Nat.le_of_ble_eq_true rfl⟩
  · cases q
theorem M_X1_hasHandsFull (l : Launch) (G : AG) : am_M l G yX1_hasHandsFull cX1_hasHandsFull 2 (some .boolean) 3 66 (some 1) F_X1_hasHandsFull := am_M_of (f := fl_X1_hasHandsFull) (toR := fun x => (some (.inl x.1), x.2)) (P := P_X1_hasHandsFull) (Rr := am_rZ) (own := RX1) (by decide) rfl (fun _ _ => rfl) s_X1_hasHandsFull am_wrI am_rkZ pf_RX1 pk_RX1 ps_RX1 (List.forall_mem_cons.mpr ⟨cv_RX1_104 l G (by decide) (by decide), (fun _ q => by cases q)⟩) (fun _ q => by cases q) (fun _ q => by cases q) (b_X1_hasHandsFull l G)
def C_X1_holdsPairOf : List AC := [(0, .iconst 0, 1, []), (1, .istore_n 3, 2, []), (2, .iload_n 3, 3, []), (3, .aload_n 0, 4, []), (4, .getfield 32, 7, []), (7, .if_icmp .ge 43, 10, [50]), (10, .iload_n 3, 11, []), (11, .iload_n 2, 12, []), (12, .if_icmp .eq 32, 15, [44]), (15, .aload_n 0, 16, []), (16, .iload_n 1, 17, []), (17, .iload_n 3, 18, []), (18, .invokevirtual 77, 21, []), (21, .ifCond .eq 23, 24, [44]), (24, .aload_n 0, 25, []), (25, .getfield 17, 28, []), (28, .iload_n 3, 29, []), (29, .aaload, 30, []), (30, .aload_n 0, 31, []), (31, .getfield 17, 34, []), (34, .iload_n 2, 35, []), (35, .aaload, 36, []), (36, .invokevirtual 100, 39, []), (39, .ifCond .eq 5, 42, [44]), (42, .iconst 1, 43, []), (43, .ireturn, 44, []), (44, .iinc 3 1, 47, []), (47, .goto (-45), 50, [2]), (50, .iconst 0, 51, []), (51, .ireturn, 52, [])]
theorem ok_X1_holdsPairOf : ∀ x ∈ C_X1_holdsPairOf, am_ok cX1_holdsPairOf 4 x = true := by decide +kernel
noncomputable def P_X1_holdsPairOf : AP := (PF_RX1, PK_RX1, PS_RX1, [(77, 3, F_X1_holds), (100, 2, F_X0_isPairOf)], [], [])
noncomputable def g_X1_holdsPairOf_2  : Nat → Nat → Int32 → Int32 → Int32 → HP → Option (Int32 × HP)
  | 0, _, _, _, _, _ => none
  | n + 1, a1, a2, a3, a4, h => if h_rI h 1 a1 3 ≤ a4 then (some (0, h)) else (if a4 = a3 then (g_X1_holdsPairOf_2 n a1 a2 a3 (a4 + 1) h) else ((f_X1_holds a1 a2 a4 h).bind (fun q_1 => if q_1.1 = (0 : Int32) then (g_X1_holdsPairOf_2 n a1 a2 a3 (a4 + 1) q_1.2) else ((am_ix a4 8).bind (fun k_2 => (am_ix a3 8).bind (fun k_3 => (f_X0_isPairOf (8 * a1 + k_2) (8 * a1 + k_3) q_1.2).bind (fun q_4 => if q_4.1 = (0 : Int32) then (g_X1_holdsPairOf_2 n a1 a2 a3 (a4 + 1) q_4.2) else (some (1, q_4.2)))))))))
def pk_X1_holdsPairOf_2 (k : Nat → Int32 → Int32 → Int32 → HP → Option (Int32 × HP)) : List AV → List AV → HP → Option (Int32 × HP) := fun L st h => match L, st with
  | [.inr (.inr (.inl (1, a1))), .inl a2, .inl a3, .inl a4], [] => k a1 a2 a3 a4 h
  | _, _ => none
theorem pk_X1_holdsPairOf_2_ok {Wp : List AV → List AV → HP → Prop} {r : (Int32 × HP)} {k : Nat → Int32 → Int32 → Int32 → HP → Option (Int32 × HP)} (hk : ∀ (a1 : Nat) (a2 : Int32) (a3 : Int32) (a4 : Int32) (h : HP), k a1 a2 a3 a4 h = some r → Wp [.inr (.inr (.inl (1, a1))), .inl a2, .inl a3, .inl a4] [] h) : ∀ L st h, pk_X1_holdsPairOf_2 k L st h = some r → Wp L st h := by
  intro L st h q
  unfold pk_X1_holdsPairOf_2 at q
  split at q
  · exact hk _ _ _ _ _ q
  · cases q
noncomputable def f_X1_holdsPairOf (a1 : Nat) (a2 : Int32) (a3 : Int32) (h : HP) : Option (Int32 × HP) := g_X1_holdsPairOf_2 am_fu a1 a2 a3 0 h
noncomputable def fl_X1_holdsPairOf : List AV → HP → Option (Int32 × HP) := fun as h => match as with
  | [.inr (.inr (.inl (1, a1))), .inl a2, .inl a3] => f_X1_holdsPairOf a1 a2 a3 h
  | _ => none
noncomputable def F_X1_holdsPairOf : AF := .inl fl_X1_holdsPairOf
set_option maxRecDepth 20000 in
theorem w_X1_holdsPairOf_2 {p : Program} {l : Launch} {e : Env} {R : Room} {s : State} {m : MethodId} {args : Array Value} {below : List Frame} {meth : Method} {c : Code} {cells slots : Nat} {G : AG} {Q : (Int32 × HP) → State → Prop} (CX : am_X p l e R s m args below meth c cells slots G 4 cX1_holdsPairOf RX1 am_tb P_X1_holdsPairOf am_rZ Q) {r : (Int32 × HP)} : ∀ (n : Nat) (a1 : Nat) (a2 : Int32) (a3 : Int32) (a4 : Int32) (h : HP), g_X1_holdsPairOf_2 n a1 a2 a3 a4 h = some r → am_W p l e R s m args below meth c cells slots G 4 (Q r) 2 [.inr (.inr (.inl (1, a1))), .inl a2, .inl a3, .inl a4] [] h := by
  intro n
  induction n with
  | zero =>
    intro a1 a2 a3 a4 h q
    have q9 : (none : Option (Int32 × HP)) = some r := q
    cases q9
  | succ n ih =>
    intro a1 a2 a3 a4 h q
    exact am_run_ok CX ok_X1_holdsPairOf (K := [(2, pk_X1_holdsPairOf_2 (g_X1_holdsPairOf_2 n))]) (am_K1 (Wp := am_W p l e R s m args below meth c cells slots G 4 (Q r)) (pk_X1_holdsPairOf_2_ok (Wp := am_W p l e R s m args below meth c cells slots G 4 (Q r) 2) ih) am_K0) 27 2 _ _ _ q
set_option maxRecDepth 20000 in
theorem b_X1_holdsPairOf (l : Launch) (G : AG) : am_B l G 4 cX1_holdsPairOf RX1 am_tb P_X1_holdsPairOf am_rZ fl_X1_holdsPairOf := by
  intro p e R s m args below meth c cells slots Q CX as h r q
  unfold fl_X1_holdsPairOf at q
  split at q
  · exact am_run_ok CX ok_X1_holdsPairOf (K := [(2, pk_X1_holdsPairOf_2 (g_X1_holdsPairOf_2 am_fu))]) (am_K1 (Wp := am_W p l e R s m args below meth c cells slots G 4 (Q r)) (pk_X1_holdsPairOf_2_ok (Wp := am_W p l e R s m args below meth c cells slots G 4 (Q r) 2) (w_X1_holdsPairOf_2 CX am_fu)) am_K0) 5 0 _ _ _ q
  · cases q
theorem s_X1_holdsPairOf : ∀ as h x, fl_X1_holdsPairOf as h = some x → (∀ k, (some 1 : Option Nat) = some k → ∃ (j : Nat) (as' : List AV), as = .inr (.inr (.inl (k, j))) :: as') ∧ (am_l0 as).length ≤ 4 := by
  intro as h x q
  unfold fl_X1_holdsPairOf at q
  split at q
  · exact ⟨fun k e => by cases e; exact ⟨_, _, rfl⟩, Nat.le_of_ble_eq_true rfl⟩
  · cases q
theorem M_X1_holdsPairOf (l : Launch) (G : AG) : am_M l G yX1_holdsPairOf cX1_holdsPairOf 4 (some .boolean) 1 22 (some 1) F_X1_holdsPairOf := am_M_of (f := fl_X1_holdsPairOf) (toR := fun x => (some (.inl x.1), x.2)) (P := P_X1_holdsPairOf) (Rr := am_rZ) (own := RX1) (by decide) rfl (fun _ _ => rfl) s_X1_holdsPairOf am_wrI am_rkZ pf_RX1 pk_RX1 ps_RX1 (List.forall_mem_cons.mpr ⟨cv_RX1_77 l G (by decide) (by decide), (List.forall_mem_cons.mpr ⟨cv_RX1_100 l G (by decide) (by decide), (fun _ q => by cases q)⟩)⟩) (fun _ q => by cases q) (fun _ q => by cases q) (b_X1_holdsPairOf l G)
theorem cv_RX1_107 (l : Launch) (G : AG) {fr lo : Nat} (h1 : 3 + 1 ≤ fr) (h2 : 8 + (2 + 11) + 66 ≤ lo) : am_cvOK l G RX1 fr lo (107, 2, F_X1_hasHandsFull) := ⟨yX1_hasHandsFull, cX1_hasHandsFull, 2, (some .boolean), 3, 66, 1, RX1, M_X1_hasHandsFull l G, ⟨(am_tb_mem (wd_11 _ (List.mem_of_getElem? (i := 20) rfl))), (am_tb_mem (wd_7 _ (List.mem_of_getElem? (i := 36) rfl))), (am_tb_mem (wd_7 _ (List.mem_of_getElem? (i := 37) rfl))), (am_tb_mem (wd_1 _ (List.mem_of_getElem? (i := 20) rfl))), (am_tb_mem (wd_7 _ (List.mem_of_getElem? (i := 38) rfl)))⟩, ⟨rfl, by decide, by decide, by decide +kernel⟩, Or.inl ⟨by decide, rfl⟩, h1, h2⟩
theorem cv_RX1_110 (l : Launch) (G : AG) {fr lo : Nat} (h1 : 1 + 1 ≤ fr) (h2 : 8 + (4 + 11) + 22 ≤ lo) : am_cvOK l G RX1 fr lo (110, 3, F_X1_holdsPairOf) := ⟨yX1_holdsPairOf, cX1_holdsPairOf, 4, (some .boolean), 1, 22, 1, RX1, M_X1_holdsPairOf l G, ⟨(am_tb_mem (wd_11 _ (List.mem_of_getElem? (i := 21) rfl))), (am_tb_mem (wd_8 _ (List.mem_of_getElem? (i := 11) rfl))), (am_tb_mem (wd_8 _ (List.mem_of_getElem? (i := 12) rfl))), (am_tb_mem (wd_1 _ (List.mem_of_getElem? (i := 20) rfl))), (am_tb_mem (wd_8 _ (List.mem_of_getElem? (i := 13) rfl)))⟩, ⟨rfl, by decide, by decide, by decide +kernel⟩, Or.inl ⟨by decide, rfl⟩, h1, h2⟩
def C_X1_mayLend : List AC := [(0, .aload_n 0, 1, []), (1, .getfield 17, 4, []), (4, .iload_n 1, 5, []), (5, .aaload, 6, []), (6, .invokevirtual 92, 9, []), (9, .ifCond .ne 24, 12, [33]), (12, .aload_n 0, 13, []), (13, .iload_n 2, 14, []), (14, .invokevirtual 107, 17, []), (17, .ifCond .ne 16, 20, [33]), (20, .aload_n 0, 21, []), (21, .iload_n 2, 22, []), (22, .iload_n 1, 23, []), (23, .invokevirtual 110, 26, []), (26, .ifCond .ne 7, 29, [33]), (29, .iconst 1, 30, []), (30, .goto 4, 33, [34]), (33, .iconst 0, 34, []), (34, .ireturn, 35, [])]
theorem ok_X1_mayLend : ∀ x ∈ C_X1_mayLend, am_ok cX1_mayLend 3 x = true := by decide +kernel
noncomputable def P_X1_mayLend : AP := (PF_RX1, PK_RX1, PS_RX1, [(92, 1, F_X0_isLent), (107, 2, F_X1_hasHandsFull), (110, 3, F_X1_holdsPairOf)], [], [])
noncomputable def f_X1_mayLend (a1 : Nat) (a2 : Int32) (a3 : Int32) (h : HP) : Option (Int32 × HP) := (am_ix a2 8).bind (fun k_1 => (f_X0_isLent (8 * a1 + k_1) h).bind (fun q_2 => if q_2.1 = (0 : Int32) then ((f_X1_hasHandsFull a1 a3 q_2.2).bind (fun q_3 => if q_3.1 = (0 : Int32) then ((f_X1_holdsPairOf a1 a3 a2 q_3.2).bind (fun q_4 => if q_4.1 = (0 : Int32) then (some (1, q_4.2)) else (some (0, q_4.2)))) else (some (0, q_3.2)))) else (some (0, q_2.2))))
noncomputable def fl_X1_mayLend : List AV → HP → Option (Int32 × HP) := fun as h => match as with
  | [.inr (.inr (.inl (1, a1))), .inl a2, .inl a3] => f_X1_mayLend a1 a2 a3 h
  | _ => none
noncomputable def F_X1_mayLend : AF := .inl fl_X1_mayLend
set_option maxRecDepth 20000 in
theorem b_X1_mayLend (l : Launch) (G : AG) : am_B l G 3 cX1_mayLend RX1 am_tb P_X1_mayLend am_rZ fl_X1_mayLend := by
  intro p e R s m args below meth c cells slots Q CX as h r q
  unfold fl_X1_mayLend at q
  split at q
  · exact am_run_ok CX ok_X1_mayLend (K := []) (am_K0 (Wp := am_W p l e R s m args below meth c cells slots G 3 (Q r))) 21 0 _ _ _ q
  · cases q
theorem s_X1_mayLend : ∀ as h x, fl_X1_mayLend as h = some x → (∀ k, (some 1 : Option Nat) = some k → ∃ (j : Nat) (as' : List AV), as = .inr (.inr (.inl (k, j))) :: as') ∧ (am_l0 as).length ≤ 3 := by
  intro as h x q
  unfold fl_X1_mayLend at q
  split at q
  · exact ⟨fun k e => by cases e; exact ⟨_, _, rfl⟩, Nat.le_of_ble_eq_true rfl⟩
  · cases q
theorem M_X1_mayLend (l : Launch) (G : AG) : am_M l G yX1_mayLend cX1_mayLend 3 (some .boolean) 4 87 (some 1) F_X1_mayLend := am_M_of (f := fl_X1_mayLend) (toR := fun x => (some (.inl x.1), x.2)) (P := P_X1_mayLend) (Rr := am_rZ) (own := RX1) (by decide) rfl (fun _ _ => rfl) s_X1_mayLend am_wrI am_rkZ pf_RX1 pk_RX1 ps_RX1 (List.forall_mem_cons.mpr ⟨cv_RX1_92 l G (by decide) (by decide), (List.forall_mem_cons.mpr ⟨cv_RX1_107 l G (by decide) (by decide), (List.forall_mem_cons.mpr ⟨cv_RX1_110 l G (by decide) (by decide), (fun _ q => by cases q)⟩)⟩)⟩) (fun _ q => by cases q) (fun _ q => by cases q) (b_X1_mayLend l G)
theorem cs_RX1_117 (l : Launch) (G : AG) {fr lo : Nat} (h1 : 1 ≤ fr) (h2 : 21 ≤ lo) : am_csOK l G RX1 fr lo (117, 2, F_J9_min_7cf53) := Or.inr (Or.inr ⟨rfl, ⟨(am_tb_mem (wd_9 _ (List.mem_of_getElem? (i := 5) rfl))), (am_tb_mem (wd_8 _ (List.mem_of_getElem? (i := 31) rfl))), (am_tb_mem (wd_1 _ (List.mem_of_getElem? (i := 28) rfl))), (am_tb_mem (wd_8 _ (List.mem_of_getElem? (i := 32) rfl)))⟩, h1, h2⟩)
theorem cs_RX1_122 (l : Launch) (G : AG) {fr lo : Nat} (h1 : 1 ≤ fr) (h2 : 21 ≤ lo) : am_csOK l G RX1 fr lo (122, 2, F_J9_max_7cf53) := Or.inr (Or.inl ⟨rfl, ⟨(am_tb_mem (wd_9 _ (List.mem_of_getElem? (i := 6) rfl))), (am_tb_mem (wd_9 _ (List.mem_of_getElem? (i := 7) rfl))), (am_tb_mem (wd_1 _ (List.mem_of_getElem? (i := 28) rfl))), (am_tb_mem (wd_9 _ (List.mem_of_getElem? (i := 8) rfl)))⟩, h1, h2⟩)
def C_X1_finesAhead : List AC := [(0, .aload_n 0, 1, []), (1, .getfield 24, 4, []), (4, .iload_n 1, 5, []), (5, .aaload, 6, []), (6, .getfield 66, 9, []), (9, .istore 4, 11, []), (11, .iconst 0, 12, []), (12, .istore 5, 14, []), (14, .iload 5, 16, []), (16, .aload_n 0, 17, []), (17, .getfield 32, 20, []), (20, .if_icmp .ge 46, 23, [66]), (23, .aload_n 0, 24, []), (24, .iload_n 1, 25, []), (25, .iload 5, 27, []), (27, .invokevirtual 77, 30, []), (30, .ifCond .eq 30, 33, [60]), (33, .iload 4, 35, []), (35, .iconst 0, 36, []), (36, .iload_n 2, 37, []), (37, .aload_n 0, 38, []), (38, .getfield 17, 41, []), (41, .iload 5, 43, []), (43, .aaload, 44, []), (44, .getfield 60, 47, []), (47, .iload_n 2, 48, []), (48, .iadd, 49, []), (49, .iload_n 3, 50, []), (50, .isub, 51, []), (51, .invokestatic 117, 54, []), (54, .invokestatic 122, 57, []), (57, .iadd, 58, []), (58, .istore 4, 60, []), (60, .iinc 5 1, 63, []), (63, .goto (-49), 66, [14]), (66, .sipush 9999, 69, []), (69, .iload 4, 71, []), (71, .invokestatic 117, 74, []), (74, .ireturn, 75, [])]
theorem ok_X1_finesAhead : ∀ x ∈ C_X1_finesAhead, am_ok cX1_finesAhead 6 x = true := by decide +kernel
noncomputable def P_X1_finesAhead : AP := (PF_RX1, PK_RX1, PS_RX1, [(77, 3, F_X1_holds)], [(117, 2, F_J9_min_7cf53), (122, 2, F_J9_max_7cf53)], [])
noncomputable def g_X1_finesAhead_14  : Nat → Nat → Int32 → Int32 → Int32 → Int32 → Int32 → HP → Option (Int32 × HP)
  | 0, _, _, _, _, _, _, _ => none
  | n + 1, a1, a2, a3, a4, a5, a6, h => if h_rI h 1 a1 3 ≤ a6 then ((f_J9_min_7cf53 9999 a5 h).bind (fun q_1 => some (q_1.1, q_1.2))) else ((f_X1_holds a1 a2 a6 h).bind (fun q_2 => if q_2.1 = (0 : Int32) then (g_X1_finesAhead_14 n a1 a2 a3 a4 a5 (a6 + 1) q_2.2) else ((am_ix a6 8).bind (fun k_3 => (f_J9_min_7cf53 a3 (((h_rI q_2.2 0 (8 * a1 + k_3) 5) + a3) - a4) q_2.2).bind (fun q_4 => (f_J9_max_7cf53 0 q_4.1 q_4.2).bind (fun q_5 => g_X1_finesAhead_14 n a1 a2 a3 a4 (a5 + q_5.1) (a6 + 1) q_5.2))))))
def pk_X1_finesAhead_14 (k : Nat → Int32 → Int32 → Int32 → Int32 → Int32 → HP → Option (Int32 × HP)) : List AV → List AV → HP → Option (Int32 × HP) := fun L st h => match L, st with
  | [.inr (.inr (.inl (1, a1))), .inl a2, .inl a3, .inl a4, .inl a5, .inl a6], [] => k a1 a2 a3 a4 a5 a6 h
  | _, _ => none
theorem pk_X1_finesAhead_14_ok {Wp : List AV → List AV → HP → Prop} {r : (Int32 × HP)} {k : Nat → Int32 → Int32 → Int32 → Int32 → Int32 → HP → Option (Int32 × HP)} (hk : ∀ (a1 : Nat) (a2 : Int32) (a3 : Int32) (a4 : Int32) (a5 : Int32) (a6 : Int32) (h : HP), k a1 a2 a3 a4 a5 a6 h = some r → Wp [.inr (.inr (.inl (1, a1))), .inl a2, .inl a3, .inl a4, .inl a5, .inl a6] [] h) : ∀ L st h, pk_X1_finesAhead_14 k L st h = some r → Wp L st h := by
  intro L st h q
  unfold pk_X1_finesAhead_14 at q
  split at q
  · exact hk _ _ _ _ _ _ _ q
  · cases q
noncomputable def f_X1_finesAhead (a1 : Nat) (a2 : Int32) (a3 : Int32) (a4 : Int32) (h : HP) : Option (Int32 × HP) := (am_ix a2 6).bind (fun k_1 => g_X1_finesAhead_14 am_fu a1 a2 a3 a4 (h_rI h 2 (6 * a1 + k_1) 1) 0 h)
noncomputable def fl_X1_finesAhead : List AV → HP → Option (Int32 × HP) := fun as h => match as with
  | [.inr (.inr (.inl (1, a1))), .inl a2, .inl a3, .inl a4] => f_X1_finesAhead a1 a2 a3 a4 h
  | _ => none
noncomputable def F_X1_finesAhead : AF := .inl fl_X1_finesAhead
set_option maxRecDepth 20000 in
theorem w_X1_finesAhead_14 {p : Program} {l : Launch} {e : Env} {R : Room} {s : State} {m : MethodId} {args : Array Value} {below : List Frame} {meth : Method} {c : Code} {cells slots : Nat} {G : AG} {Q : (Int32 × HP) → State → Prop} (CX : am_X p l e R s m args below meth c cells slots G 6 cX1_finesAhead RX1 am_tb P_X1_finesAhead am_rI Q) {r : (Int32 × HP)} : ∀ (n : Nat) (a1 : Nat) (a2 : Int32) (a3 : Int32) (a4 : Int32) (a5 : Int32) (a6 : Int32) (h : HP), g_X1_finesAhead_14 n a1 a2 a3 a4 a5 a6 h = some r → am_W p l e R s m args below meth c cells slots G 6 (Q r) 14 [.inr (.inr (.inl (1, a1))), .inl a2, .inl a3, .inl a4, .inl a5, .inl a6] [] h := by
  intro n
  induction n with
  | zero =>
    intro a1 a2 a3 a4 a5 a6 h q
    have q9 : (none : Option (Int32 × HP)) = some r := q
    cases q9
  | succ n ih =>
    intro a1 a2 a3 a4 a5 a6 h q
    exact am_run_ok CX ok_X1_finesAhead (K := [(14, pk_X1_finesAhead_14 (g_X1_finesAhead_14 n))]) (am_K1 (Wp := am_W p l e R s m args below meth c cells slots G 6 (Q r)) (pk_X1_finesAhead_14_ok (Wp := am_W p l e R s m args below meth c cells slots G 6 (Q r) 14) ih) am_K0) 30 14 _ _ _ q
set_option maxRecDepth 20000 in
theorem b_X1_finesAhead (l : Launch) (G : AG) : am_B l G 6 cX1_finesAhead RX1 am_tb P_X1_finesAhead am_rI fl_X1_finesAhead := by
  intro p e R s m args below meth c cells slots Q CX as h r q
  unfold fl_X1_finesAhead at q
  split at q
  · exact am_run_ok CX ok_X1_finesAhead (K := [(14, pk_X1_finesAhead_14 (g_X1_finesAhead_14 am_fu))]) (am_K1 (Wp := am_W p l e R s m args below meth c cells slots G 6 (Q r)) (pk_X1_finesAhead_14_ok (Wp := am_W p l e R s m args below meth c cells slots G 6 (Q r) 14) (w_X1_finesAhead_14 CX am_fu)) am_K0) 11 0 _ _ _ q
  · cases q
theorem s_X1_finesAhead : ∀ as h x, fl_X1_finesAhead as h = some x → (∀ k, (some 1 : Option Nat) = some k → ∃ (j : Nat) (as' : List AV), as = .inr (.inr (.inl (k, j))) :: as') ∧ (am_l0 as).length ≤ 6 := by
  intro as h x q
  unfold fl_X1_finesAhead at q
  split at q
  · exact ⟨fun k e => by cases e; exact ⟨_, _, rfl⟩, Nat.le_of_ble_eq_true rfl⟩
  · cases q
theorem M_X1_finesAhead (l : Launch) (G : AG) : am_M l G yX1_finesAhead cX1_finesAhead 6 (some .int) 1 22 (some 1) F_X1_finesAhead := am_M_of (f := fl_X1_finesAhead) (toR := fun x => (some (.inl x.1), x.2)) (P := P_X1_finesAhead) (Rr := am_rI) (own := RX1) (by decide) rfl (fun _ _ => rfl) s_X1_finesAhead am_wrI am_rkI pf_RX1 pk_RX1 ps_RX1 (List.forall_mem_cons.mpr ⟨cv_RX1_77 l G (by decide) (by decide), (fun _ q => by cases q)⟩) (List.forall_mem_cons.mpr ⟨cs_RX1_117 l G (by decide) (by decide), (List.forall_mem_cons.mpr ⟨cs_RX1_122 l G (by decide) (by decide), (fun _ q => by cases q)⟩)⟩) (fun _ q => by cases q) (b_X1_finesAhead l G)
theorem cv_RX1_113 (l : Launch) (G : AG) {fr lo : Nat} (h1 : 1 + 1 ≤ fr) (h2 : 8 + (6 + 11) + 22 ≤ lo) : am_cvOK l G RX1 fr lo (113, 4, F_X1_finesAhead) := ⟨yX1_finesAhead, cX1_finesAhead, 6, (some .int), 1, 22, 1, RX1, M_X1_finesAhead l G, ⟨(am_tb_mem (wd_9 _ (List.mem_of_getElem? (i := 1) rfl))), (am_tb_mem (wd_9 _ (List.mem_of_getElem? (i := 2) rfl))), (am_tb_mem (wd_9 _ (List.mem_of_getElem? (i := 3) rfl))), (am_tb_mem (wd_1 _ (List.mem_of_getElem? (i := 20) rfl))), (am_tb_mem (wd_9 _ (List.mem_of_getElem? (i := 4) rfl)))⟩, ⟨rfl, by decide, by decide, by decide +kernel⟩, Or.inl ⟨by decide, rfl⟩, h1, h2⟩
def C_X1_goOn : List AC := [(0, .iconst 0, 1, []), (1, .istore_n 2, 2, []), (2, .iload_n 2, 3, []), (3, .aload_n 0, 4, []), (4, .getfield 39, 7, []), (7, .if_icmp .ge 28, 10, [35]), (10, .aload_n 0, 11, []), (11, .getfield 24, 14, []), (14, .iload_n 2, 15, []), (15, .aaload, 16, []), (16, .aload_n 0, 17, []), (17, .iload_n 2, 18, []), (18, .iload_n 1, 19, []), (19, .aload_n 0, 20, []), (20, .getfield 9, 23, []), (23, .invokevirtual 113, 26, []), (26, .putfield 66, 29, []), (29, .iinc 2 1, 32, []), (32, .goto (-30), 35, [2]), (35, .iconst 0, 36, []), (36, .istore_n 2, 37, []), (37, .iload_n 2, 38, []), (38, .aload_n 0, 39, []), (39, .getfield 32, 42, []), (42, .if_icmp .ge 36, 45, [78]), (45, .aload_n 0, 46, []), (46, .getfield 17, 49, []), (49, .iload_n 2, 50, []), (50, .aaload, 51, []), (51, .invokevirtual 92, 54, []), (54, .ifCond .eq 18, 57, [72]), (57, .aload_n 0, 58, []), (58, .getfield 17, 61, []), (61, .iload_n 2, 62, []), (62, .aaload, 63, []), (63, .dup, 64, []), (64, .getfield 60, 67, []), (67, .iload_n 1, 68, []), (68, .iadd, 69, []), (69, .putfield 60, 72, []), (72, .iinc 2 1, 75, []), (75, .goto (-38), 78, [37]), (78, .aload_n 0, 79, []), (79, .dup, 80, []), (80, .getfield 29, 83, []), (83, .iload_n 1, 84, []), (84, .iadd, 85, []), (85, .putfield 29, 88, []), (88, .return_, 89, [])]
theorem ok_X1_goOn : ∀ x ∈ C_X1_goOn, am_ok cX1_goOn 3 x = true := by decide +kernel
noncomputable def P_X1_goOn : AP := (PF_RX1, PK_RX1, PS_RX1, [(92, 1, F_X0_isLent), (113, 4, F_X1_finesAhead)], [], [])
noncomputable def g_X1_goOn_37  : Nat → Nat → Int32 → Int32 → HP → Option HP
  | 0, _, _, _, _ => none
  | n + 1, a1, a2, a3, h => if h_rI h 1 a1 3 ≤ a3 then (some (h_wI h 1 a1 0 ((h_rI h 1 a1 0) + a2))) else ((am_ix a3 8).bind (fun k_1 => (f_X0_isLent (8 * a1 + k_1) h).bind (fun q_2 => if q_2.1 = (0 : Int32) then (g_X1_goOn_37 n a1 a2 (a3 + 1) q_2.2) else ((am_ix a3 8).bind (fun k_3 => g_X1_goOn_37 n a1 a2 (a3 + 1) (h_wI q_2.2 0 (8 * a1 + k_3) 5 ((h_rI q_2.2 0 (8 * a1 + k_3) 5) + a2)))))))
def pk_X1_goOn_37 (k : Nat → Int32 → Int32 → HP → Option HP) : List AV → List AV → HP → Option HP := fun L st h => match L, st with
  | [.inr (.inr (.inl (1, a1))), .inl a2, .inl a3], [] => k a1 a2 a3 h
  | _, _ => none
theorem pk_X1_goOn_37_ok {Wp : List AV → List AV → HP → Prop} {r : HP} {k : Nat → Int32 → Int32 → HP → Option HP} (hk : ∀ (a1 : Nat) (a2 : Int32) (a3 : Int32) (h : HP), k a1 a2 a3 h = some r → Wp [.inr (.inr (.inl (1, a1))), .inl a2, .inl a3] [] h) : ∀ L st h, pk_X1_goOn_37 k L st h = some r → Wp L st h := by
  intro L st h q
  unfold pk_X1_goOn_37 at q
  split at q
  · exact hk _ _ _ _ q
  · cases q
noncomputable def g_X1_goOn_2  : Nat → Nat → Int32 → Int32 → HP → Option HP
  | 0, _, _, _, _ => none
  | n + 1, a1, a2, a3, h => if h_rI h 1 a1 5 ≤ a3 then (g_X1_goOn_37 am_fu a1 a2 0 h) else ((am_ix a3 6).bind (fun k_1 => (f_X1_finesAhead a1 a3 a2 (h_rI h 1 a1 1) h).bind (fun q_2 => g_X1_goOn_2 n a1 a2 (a3 + 1) (h_wI q_2.2 2 (6 * a1 + k_1) 1 q_2.1))))
def pk_X1_goOn_2 (k : Nat → Int32 → Int32 → HP → Option HP) : List AV → List AV → HP → Option HP := fun L st h => match L, st with
  | [.inr (.inr (.inl (1, a1))), .inl a2, .inl a3], [] => k a1 a2 a3 h
  | _, _ => none
theorem pk_X1_goOn_2_ok {Wp : List AV → List AV → HP → Prop} {r : HP} {k : Nat → Int32 → Int32 → HP → Option HP} (hk : ∀ (a1 : Nat) (a2 : Int32) (a3 : Int32) (h : HP), k a1 a2 a3 h = some r → Wp [.inr (.inr (.inl (1, a1))), .inl a2, .inl a3] [] h) : ∀ L st h, pk_X1_goOn_2 k L st h = some r → Wp L st h := by
  intro L st h q
  unfold pk_X1_goOn_2 at q
  split at q
  · exact hk _ _ _ _ q
  · cases q
noncomputable def f_X1_goOn (a1 : Nat) (a2 : Int32) (h : HP) : Option HP := g_X1_goOn_2 am_fu a1 a2 0 h
noncomputable def fl_X1_goOn : List AV → HP → Option HP := fun as h => match as with
  | [.inr (.inr (.inl (1, a1))), .inl a2] => f_X1_goOn a1 a2 h
  | _ => none
noncomputable def F_X1_goOn : AF := .inr (.inl fl_X1_goOn)
set_option maxRecDepth 20000 in
theorem w_X1_goOn_37 {p : Program} {l : Launch} {e : Env} {R : Room} {s : State} {m : MethodId} {args : Array Value} {below : List Frame} {meth : Method} {c : Code} {cells slots : Nat} {G : AG} {Q : HP → State → Prop} (CX : am_X p l e R s m args below meth c cells slots G 3 cX1_goOn RX1 am_tb P_X1_goOn am_rV Q) {r : HP} : ∀ (n : Nat) (a1 : Nat) (a2 : Int32) (a3 : Int32) (h : HP), g_X1_goOn_37 n a1 a2 a3 h = some r → am_W p l e R s m args below meth c cells slots G 3 (Q r) 37 [.inr (.inr (.inl (1, a1))), .inl a2, .inl a3] [] h := by
  intro n
  induction n with
  | zero =>
    intro a1 a2 a3 h q
    have q9 : (none : Option HP) = some r := q
    cases q9
  | succ n ih =>
    intro a1 a2 a3 h q
    exact am_run_ok CX ok_X1_goOn (K := [(37, pk_X1_goOn_37 (g_X1_goOn_37 n))]) (am_K1 (Wp := am_W p l e R s m args below meth c cells slots G 3 (Q r)) (pk_X1_goOn_37_ok (Wp := am_W p l e R s m args below meth c cells slots G 3 (Q r) 37) ih) am_K0) 24 37 _ _ _ q
set_option maxRecDepth 20000 in
theorem w_X1_goOn_2 {p : Program} {l : Launch} {e : Env} {R : Room} {s : State} {m : MethodId} {args : Array Value} {below : List Frame} {meth : Method} {c : Code} {cells slots : Nat} {G : AG} {Q : HP → State → Prop} (CX : am_X p l e R s m args below meth c cells slots G 3 cX1_goOn RX1 am_tb P_X1_goOn am_rV Q) {r : HP} : ∀ (n : Nat) (a1 : Nat) (a2 : Int32) (a3 : Int32) (h : HP), g_X1_goOn_2 n a1 a2 a3 h = some r → am_W p l e R s m args below meth c cells slots G 3 (Q r) 2 [.inr (.inr (.inl (1, a1))), .inl a2, .inl a3] [] h := by
  intro n
  induction n with
  | zero =>
    intro a1 a2 a3 h q
    have q9 : (none : Option HP) = some r := q
    cases q9
  | succ n ih =>
    intro a1 a2 a3 h q
    exact am_run_ok CX ok_X1_goOn (K := [(37, pk_X1_goOn_37 (g_X1_goOn_37 am_fu)), (2, pk_X1_goOn_2 (g_X1_goOn_2 n))]) (am_K1 (Wp := am_W p l e R s m args below meth c cells slots G 3 (Q r)) (pk_X1_goOn_37_ok (Wp := am_W p l e R s m args below meth c cells slots G 3 (Q r) 37) (w_X1_goOn_37 CX am_fu)) (am_K1 (Wp := am_W p l e R s m args below meth c cells slots G 3 (Q r)) (pk_X1_goOn_2_ok (Wp := am_W p l e R s m args below meth c cells slots G 3 (Q r) 2) ih) am_K0)) 20 2 _ _ _ q
set_option maxRecDepth 20000 in
theorem b_X1_goOn (l : Launch) (G : AG) : am_B l G 3 cX1_goOn RX1 am_tb P_X1_goOn am_rV fl_X1_goOn := by
  intro p e R s m args below meth c cells slots Q CX as h r q
  unfold fl_X1_goOn at q
  split at q
  · exact am_run_ok CX ok_X1_goOn (K := [(2, pk_X1_goOn_2 (g_X1_goOn_2 am_fu))]) (am_K1 (Wp := am_W p l e R s m args below meth c cells slots G 3 (Q r)) (pk_X1_goOn_2_ok (Wp := am_W p l e R s m args below meth c cells slots G 3 (Q r) 2) (w_X1_goOn_2 CX am_fu)) am_K0) 5 0 _ _ _ q
  · cases q
theorem s_X1_goOn : ∀ as h x, fl_X1_goOn as h = some x → (∀ k, (some 1 : Option Nat) = some k → ∃ (j : Nat) (as' : List AV), as = .inr (.inr (.inl (k, j))) :: as') ∧ (am_l0 as).length ≤ 3 := by
  intro as h x q
  unfold fl_X1_goOn at q
  split at q
  · exact ⟨fun k e => by cases e; exact ⟨_, _, rfl⟩, Nat.le_of_ble_eq_true rfl⟩
  · cases q
theorem M_X1_goOn (l : Launch) (G : AG) : am_M l G yX1_goOn cX1_goOn 3 none 2 47 (some 1) F_X1_goOn := am_M_of (f := fl_X1_goOn) (toR := fun x => (none, x)) (P := P_X1_goOn) (Rr := am_rV) (own := RX1) (by decide) rfl (fun _ _ => rfl) s_X1_goOn am_wrV am_rkV pf_RX1 pk_RX1 ps_RX1 (List.forall_mem_cons.mpr ⟨cv_RX1_92 l G (by decide) (by decide), (List.forall_mem_cons.mpr ⟨cv_RX1_113 l G (by decide) (by decide), (fun _ q => by cases q)⟩)⟩) (fun _ q => by cases q) (fun _ q => by cases q) (b_X1_goOn l G)
def C_X1_oneTurnFrom : List AC := [(0, .iconst 0, 1, []), (1, .istore_n 3, 2, []), (2, .iconst 0, 3, []), (3, .istore 4, 5, []), (5, .iload 4, 7, []), (7, .aload_n 0, 8, []), (8, .getfield 32, 11, []), (11, .if_icmp .ge 86, 14, [97]), (14, .aload_n 0, 15, []), (15, .getfield 17, 18, []), (18, .iload 4, 20, []), (20, .aaload, 21, []), (21, .astore 5, 23, []), (23, .iconst 0, 24, []), (24, .istore 6, 26, []), (26, .iload 6, 28, []), (28, .bipush 16, 30, []), (30, .if_icmp .ge 61, 33, [91]), (33, .aload 5, 35, []), (35, .getfield 57, 38, []), (38, .iload_n 1, 39, []), (39, .if_icmp .ne 52, 42, [91]), (42, .iload_n 2, 43, []), (43, .iload 6, 45, []), (45, .ishr, 46, []), (46, .iconst 1, 47, []), (47, .iand, 48, []), (48, .ifCond .eq 37, 51, [85]), (51, .aload 5, 53, []), (53, .iload 6, 55, []), (55, .aload_n 0, 56, []), (56, .getfield 29, 59, []), (59, .aload_n 0, 60, []), (60, .getfield 9, 63, []), (63, .invokevirtual 69, 66, []), (66, .ifCond .eq 19, 69, [85]), (69, .iload_n 3, 70, []), (70, .iconst 1, 71, []), (71, .aload 5, 73, []), (73, .iload 6, 75, []), (75, .aload_n 0, 76, []), (76, .getfield 9, 79, []), (79, .invokevirtual 73, 82, []), (82, .ishl, 83, []), (83, .ior, 84, []), (84, .istore_n 3, 85, []), (85, .iinc 6 1, 88, []), (88, .goto (-62), 91, [26]), (91, .iinc 4 1, 94, []), (94, .goto (-89), 97, [5]), (97, .iload_n 3, 98, []), (98, .ireturn, 99, [])]
theorem ok_X1_oneTurnFrom : ∀ x ∈ C_X1_oneTurnFrom, am_ok cX1_oneTurnFrom 7 x = true := by decide +kernel
noncomputable def P_X1_oneTurnFrom : AP := (PF_RX1, PK_RX1, PS_RX1, [(69, 4, F_X0_opensIn), (73, 3, F_X0_ledTo)], [], [])
noncomputable def g_X1_oneTurnFrom_26 (k5 : Nat → Int32 → Int32 → Int32 → Int32 → HP → Option (Int32 × HP))  : Nat → Nat → Int32 → Int32 → Int32 → Int32 → Nat → Int32 → HP → Option (Int32 × HP)
  | 0, _, _, _, _, _, _, _, _ => none
  | n + 1, a1, a2, a3, a4, a5, a6, a7, h => if (16 : Int32) ≤ a7 then (k5 a1 a2 a3 a4 (a5 + 1) h) else (if h_rI h 0 a6 4 = a2 then (if (a3 >>> (a7 &&& 31)) &&& 1 = (0 : Int32) then (g_X1_oneTurnFrom_26 k5 n a1 a2 a3 a4 a5 a6 (a7 + 1) h) else ((f_X0_opensIn a6 a7 (h_rI h 1 a1 0) (h_rI h 1 a1 1) h).bind (fun q_1 => if q_1.1 = (0 : Int32) then (g_X1_oneTurnFrom_26 k5 n a1 a2 a3 a4 a5 a6 (a7 + 1) q_1.2) else ((f_X0_ledTo a6 a7 (h_rI q_1.2 1 a1 1) q_1.2).bind (fun q_2 => g_X1_oneTurnFrom_26 k5 n a1 a2 a3 (a4 ||| (1 <<< (q_2.1 &&& 31))) a5 a6 (a7 + 1) q_2.2))))) else (k5 a1 a2 a3 a4 (a5 + 1) h))
def pk_X1_oneTurnFrom_26 (k : Nat → Int32 → Int32 → Int32 → Int32 → Nat → Int32 → HP → Option (Int32 × HP)) : List AV → List AV → HP → Option (Int32 × HP) := fun L st h => match L, st with
  | [.inr (.inr (.inl (1, a1))), .inl a2, .inl a3, .inl a4, .inl a5, .inr (.inr (.inl (0, a6))), .inl a7], [] => k a1 a2 a3 a4 a5 a6 a7 h
  | _, _ => none
theorem pk_X1_oneTurnFrom_26_ok {Wp : List AV → List AV → HP → Prop} {r : (Int32 × HP)} {k : Nat → Int32 → Int32 → Int32 → Int32 → Nat → Int32 → HP → Option (Int32 × HP)} (hk : ∀ (a1 : Nat) (a2 : Int32) (a3 : Int32) (a4 : Int32) (a5 : Int32) (a6 : Nat) (a7 : Int32) (h : HP), k a1 a2 a3 a4 a5 a6 a7 h = some r → Wp [.inr (.inr (.inl (1, a1))), .inl a2, .inl a3, .inl a4, .inl a5, .inr (.inr (.inl (0, a6))), .inl a7] [] h) : ∀ L st h, pk_X1_oneTurnFrom_26 k L st h = some r → Wp L st h := by
  intro L st h q
  unfold pk_X1_oneTurnFrom_26 at q
  split at q
  · exact hk _ _ _ _ _ _ _ _ q
  · cases q
noncomputable def g_X1_oneTurnFrom_5  : Nat → Nat → Int32 → Int32 → Int32 → Int32 → HP → Option (Int32 × HP)
  | 0, _, _, _, _, _, _ => none
  | n + 1, a1, a2, a3, a4, a5, h => if h_rI h 1 a1 3 ≤ a5 then (some (a4, h)) else ((am_ix a5 8).bind (fun k_1 => g_X1_oneTurnFrom_26 (g_X1_oneTurnFrom_5 n) am_fu a1 a2 a3 a4 a5 (8 * a1 + k_1) 0 h))
def pk_X1_oneTurnFrom_5 (k : Nat → Int32 → Int32 → Int32 → Int32 → HP → Option (Int32 × HP)) : List AV → List AV → HP → Option (Int32 × HP) := fun L st h => match L, st with
  | [.inr (.inr (.inl (1, a1))), .inl a2, .inl a3, .inl a4, .inl a5, _, _], [] => k a1 a2 a3 a4 a5 h
  | _, _ => none
theorem pk_X1_oneTurnFrom_5_ok {Wp : List AV → List AV → HP → Prop} {r : (Int32 × HP)} {k : Nat → Int32 → Int32 → Int32 → Int32 → HP → Option (Int32 × HP)} (hk : ∀ (a1 : Nat) (a2 : Int32) (a3 : Int32) (a4 : Int32) (a5 : Int32) (w1 : AV) (w2 : AV) (h : HP), k a1 a2 a3 a4 a5 h = some r → Wp [.inr (.inr (.inl (1, a1))), .inl a2, .inl a3, .inl a4, .inl a5, w1, w2] [] h) : ∀ L st h, pk_X1_oneTurnFrom_5 k L st h = some r → Wp L st h := by
  intro L st h q
  unfold pk_X1_oneTurnFrom_5 at q
  split at q
  · exact hk _ _ _ _ _ _ _ _ q
  · cases q
noncomputable def f_X1_oneTurnFrom (a1 : Nat) (a2 : Int32) (a3 : Int32) (h : HP) : Option (Int32 × HP) := g_X1_oneTurnFrom_5 am_fu a1 a2 a3 0 0 h
noncomputable def fl_X1_oneTurnFrom : List AV → HP → Option (Int32 × HP) := fun as h => match as with
  | [.inr (.inr (.inl (1, a1))), .inl a2, .inl a3] => f_X1_oneTurnFrom a1 a2 a3 h
  | _ => none
noncomputable def F_X1_oneTurnFrom : AF := .inl fl_X1_oneTurnFrom
set_option maxRecDepth 20000 in
theorem w_X1_oneTurnFrom_26 {p : Program} {l : Launch} {e : Env} {R : Room} {s : State} {m : MethodId} {args : Array Value} {below : List Frame} {meth : Method} {c : Code} {cells slots : Nat} {G : AG} {Q : (Int32 × HP) → State → Prop} (CX : am_X p l e R s m args below meth c cells slots G 7 cX1_oneTurnFrom RX1 am_tb P_X1_oneTurnFrom am_rI Q) {r : (Int32 × HP)} {k5 : Nat → Int32 → Int32 → Int32 → Int32 → HP → Option (Int32 × HP)} (hk5 : ∀ (a1 : Nat) (a2 : Int32) (a3 : Int32) (a4 : Int32) (a5 : Int32) (w1 : AV) (w2 : AV) (h : HP), k5 a1 a2 a3 a4 a5 h = some r → am_W p l e R s m args below meth c cells slots G 7 (Q r) 5 [.inr (.inr (.inl (1, a1))), .inl a2, .inl a3, .inl a4, .inl a5, w1, w2] [] h) : ∀ (n : Nat) (a1 : Nat) (a2 : Int32) (a3 : Int32) (a4 : Int32) (a5 : Int32) (a6 : Nat) (a7 : Int32) (h : HP), g_X1_oneTurnFrom_26 k5 n a1 a2 a3 a4 a5 a6 a7 h = some r → am_W p l e R s m args below meth c cells slots G 7 (Q r) 26 [.inr (.inr (.inl (1, a1))), .inl a2, .inl a3, .inl a4, .inl a5, .inr (.inr (.inl (0, a6))), .inl a7] [] h := by
  intro n
  induction n with
  | zero =>
    intro a1 a2 a3 a4 a5 a6 a7 h q
    have q9 : (none : Option (Int32 × HP)) = some r := q
    cases q9
  | succ n ih =>
    intro a1 a2 a3 a4 a5 a6 a7 h q
    exact am_run_ok CX ok_X1_oneTurnFrom (K := [(5, pk_X1_oneTurnFrom_5 (k5)), (26, pk_X1_oneTurnFrom_26 (g_X1_oneTurnFrom_26 k5 n))]) (am_K1 (Wp := am_W p l e R s m args below meth c cells slots G 7 (Q r)) (pk_X1_oneTurnFrom_5_ok (Wp := am_W p l e R s m args below meth c cells slots G 7 (Q r) 5) hk5) (am_K1 (Wp := am_W p l e R s m args below meth c cells slots G 7 (Q r)) (pk_X1_oneTurnFrom_26_ok (Wp := am_W p l e R s m args below meth c cells slots G 7 (Q r) 26) ih) am_K0)) 36 26 _ _ _ q
set_option maxRecDepth 20000 in
theorem w_X1_oneTurnFrom_5 {p : Program} {l : Launch} {e : Env} {R : Room} {s : State} {m : MethodId} {args : Array Value} {below : List Frame} {meth : Method} {c : Code} {cells slots : Nat} {G : AG} {Q : (Int32 × HP) → State → Prop} (CX : am_X p l e R s m args below meth c cells slots G 7 cX1_oneTurnFrom RX1 am_tb P_X1_oneTurnFrom am_rI Q) {r : (Int32 × HP)} : ∀ (n : Nat) (a1 : Nat) (a2 : Int32) (a3 : Int32) (a4 : Int32) (a5 : Int32) (w1 : AV) (w2 : AV) (h : HP), g_X1_oneTurnFrom_5 n a1 a2 a3 a4 a5 h = some r → am_W p l e R s m args below meth c cells slots G 7 (Q r) 5 [.inr (.inr (.inl (1, a1))), .inl a2, .inl a3, .inl a4, .inl a5, w1, w2] [] h := by
  intro n
  induction n with
  | zero =>
    intro a1 a2 a3 a4 a5 w1 w2 h q
    have q9 : (none : Option (Int32 × HP)) = some r := q
    cases q9
  | succ n ih =>
    intro a1 a2 a3 a4 a5 w1 w2 h q
    exact am_run_ok CX ok_X1_oneTurnFrom (K := [(26, pk_X1_oneTurnFrom_26 (g_X1_oneTurnFrom_26 (g_X1_oneTurnFrom_5 n) am_fu))]) (am_K1 (Wp := am_W p l e R s m args below meth c cells slots G 7 (Q r)) (pk_X1_oneTurnFrom_26_ok (Wp := am_W p l e R s m args below meth c cells slots G 7 (Q r) 26) (w_X1_oneTurnFrom_26 CX ih am_fu)) am_K0) 14 5 _ _ _ q
set_option maxRecDepth 20000 in
theorem b_X1_oneTurnFrom (l : Launch) (G : AG) : am_B l G 7 cX1_oneTurnFrom RX1 am_tb P_X1_oneTurnFrom am_rI fl_X1_oneTurnFrom := by
  intro p e R s m args below meth c cells slots Q CX as h r q
  unfold fl_X1_oneTurnFrom at q
  split at q
  · exact am_run_ok CX ok_X1_oneTurnFrom (K := [(5, pk_X1_oneTurnFrom_5 (g_X1_oneTurnFrom_5 am_fu))]) (am_K1 (Wp := am_W p l e R s m args below meth c cells slots G 7 (Q r)) (pk_X1_oneTurnFrom_5_ok (Wp := am_W p l e R s m args below meth c cells slots G 7 (Q r) 5) (w_X1_oneTurnFrom_5 CX am_fu)) am_K0) 7 0 _ _ _ q
  · cases q
theorem s_X1_oneTurnFrom : ∀ as h x, fl_X1_oneTurnFrom as h = some x → (∀ k, (some 1 : Option Nat) = some k → ∃ (j : Nat) (as' : List AV), as = .inr (.inr (.inl (k, j))) :: as') ∧ (am_l0 as).length ≤ 7 := by
  intro as h x q
  unfold fl_X1_oneTurnFrom at q
  split at q
  · exact ⟨fun k e => by cases e; exact ⟨_, _, rfl⟩, Nat.le_of_ble_eq_true rfl⟩
  · cases q
theorem M_X1_oneTurnFrom (l : Launch) (G : AG) : am_M l G yX1_oneTurnFrom cX1_oneTurnFrom 7 (some .int) 3 71 (some 1) F_X1_oneTurnFrom := am_M_of (f := fl_X1_oneTurnFrom) (toR := fun x => (some (.inl x.1), x.2)) (P := P_X1_oneTurnFrom) (Rr := am_rI) (own := RX1) (by decide) rfl (fun _ _ => rfl) s_X1_oneTurnFrom am_wrI am_rkI pf_RX1 pk_RX1 ps_RX1 (List.forall_mem_cons.mpr ⟨cv_RX1_69 l G (by decide) (by decide), (List.forall_mem_cons.mpr ⟨cv_RX1_73 l G (by decide) (by decide), (fun _ q => by cases q)⟩)⟩) (fun _ q => by cases q) (fun _ q => by cases q) (b_X1_oneTurnFrom l G)
theorem cv_RX1_125 (l : Launch) (G : AG) {fr lo : Nat} (h1 : 3 + 1 ≤ fr) (h2 : 8 + (7 + 11) + 71 ≤ lo) : am_cvOK l G RX1 fr lo (125, 3, F_X1_oneTurnFrom) := ⟨yX1_oneTurnFrom, cX1_oneTurnFrom, 7, (some .int), 3, 71, 1, RX1, M_X1_oneTurnFrom l G, ⟨(am_tb_mem (wd_10 _ (List.mem_of_getElem? (i := 12) rfl))), (am_tb_mem (wd_10 _ (List.mem_of_getElem? (i := 13) rfl))), (am_tb_mem (wd_10 _ (List.mem_of_getElem? (i := 14) rfl))), (am_tb_mem (wd_1 _ (List.mem_of_getElem? (i := 20) rfl))), (am_tb_mem (wd_10 _ (List.mem_of_getElem? (i := 15) rfl)))⟩, ⟨rfl, by decide, by decide, by decide +kernel⟩, Or.inl ⟨by decide, rfl⟩, h1, h2⟩
def C_X1_reachOf : List AC := [(0, .iconst 1, 1, []), (1, .aload_n 0, 2, []), (2, .getfield 24, 5, []), (5, .iload_n 1, 6, []), (6, .aaload, 7, []), (7, .getfield 63, 10, []), (10, .ishl, 11, []), (11, .istore_n 2, 12, []), (12, .iload_n 2, 13, []), (13, .istore_n 3, 14, []), (14, .iconst 0, 15, []), (15, .istore 4, 17, []), (17, .iload 4, 19, []), (19, .bipush 16, 21, []), (21, .if_icmp .ge 28, 24, [49]), (24, .iload_n 3, 25, []), (25, .ifCond .eq 24, 28, [49]), (28, .aload_n 0, 29, []), (29, .iload_n 1, 30, []), (30, .iload_n 3, 31, []), (31, .invokevirtual 125, 34, []), (34, .iload_n 2, 35, []), (35, .iconst (-1), 36, []), (36, .ixor, 37, []), (37, .iand, 38, []), (38, .istore_n 3, 39, []), (39, .iload_n 2, 40, []), (40, .iload_n 3, 41, []), (41, .ior, 42, []), (42, .istore_n 2, 43, []), (43, .iinc 4 1, 46, []), (46, .goto (-29), 49, [17]), (49, .iload_n 2, 50, []), (50, .ireturn, 51, [])]
theorem ok_X1_reachOf : ∀ x ∈ C_X1_reachOf, am_ok cX1_reachOf 5 x = true := by decide +kernel
noncomputable def P_X1_reachOf : AP := (PF_RX1, PK_RX1, PS_RX1, [(125, 3, F_X1_oneTurnFrom)], [], [])
noncomputable def g_X1_reachOf_17  : Nat → Nat → Int32 → Int32 → Int32 → Int32 → HP → Option (Int32 × HP)
  | 0, _, _, _, _, _, _ => none
  | n + 1, a1, a2, a3, a4, a5, h => if (16 : Int32) ≤ a5 then (some (a3, h)) else (if a4 = (0 : Int32) then (some (a3, h)) else ((f_X1_oneTurnFrom a1 a2 a4 h).bind (fun q_1 => g_X1_reachOf_17 n a1 a2 (a3 ||| (q_1.1 &&& (a3 ^^^ ((-1))))) (q_1.1 &&& (a3 ^^^ ((-1)))) (a5 + 1) q_1.2)))
def pk_X1_reachOf_17 (k : Nat → Int32 → Int32 → Int32 → Int32 → HP → Option (Int32 × HP)) : List AV → List AV → HP → Option (Int32 × HP) := fun L st h => match L, st with
  | [.inr (.inr (.inl (1, a1))), .inl a2, .inl a3, .inl a4, .inl a5], [] => k a1 a2 a3 a4 a5 h
  | _, _ => none
theorem pk_X1_reachOf_17_ok {Wp : List AV → List AV → HP → Prop} {r : (Int32 × HP)} {k : Nat → Int32 → Int32 → Int32 → Int32 → HP → Option (Int32 × HP)} (hk : ∀ (a1 : Nat) (a2 : Int32) (a3 : Int32) (a4 : Int32) (a5 : Int32) (h : HP), k a1 a2 a3 a4 a5 h = some r → Wp [.inr (.inr (.inl (1, a1))), .inl a2, .inl a3, .inl a4, .inl a5] [] h) : ∀ L st h, pk_X1_reachOf_17 k L st h = some r → Wp L st h := by
  intro L st h q
  unfold pk_X1_reachOf_17 at q
  split at q
  · exact hk _ _ _ _ _ _ q
  · cases q
noncomputable def f_X1_reachOf (a1 : Nat) (a2 : Int32) (h : HP) : Option (Int32 × HP) := (am_ix a2 6).bind (fun k_1 => g_X1_reachOf_17 am_fu a1 a2 (1 <<< ((h_rI h 2 (6 * a1 + k_1) 0) &&& 31)) (1 <<< ((h_rI h 2 (6 * a1 + k_1) 0) &&& 31)) 0 h)
noncomputable def fl_X1_reachOf : List AV → HP → Option (Int32 × HP) := fun as h => match as with
  | [.inr (.inr (.inl (1, a1))), .inl a2] => f_X1_reachOf a1 a2 h
  | _ => none
noncomputable def F_X1_reachOf : AF := .inl fl_X1_reachOf
set_option maxRecDepth 20000 in
theorem w_X1_reachOf_17 {p : Program} {l : Launch} {e : Env} {R : Room} {s : State} {m : MethodId} {args : Array Value} {below : List Frame} {meth : Method} {c : Code} {cells slots : Nat} {G : AG} {Q : (Int32 × HP) → State → Prop} (CX : am_X p l e R s m args below meth c cells slots G 5 cX1_reachOf RX1 am_tb P_X1_reachOf am_rI Q) {r : (Int32 × HP)} : ∀ (n : Nat) (a1 : Nat) (a2 : Int32) (a3 : Int32) (a4 : Int32) (a5 : Int32) (h : HP), g_X1_reachOf_17 n a1 a2 a3 a4 a5 h = some r → am_W p l e R s m args below meth c cells slots G 5 (Q r) 17 [.inr (.inr (.inl (1, a1))), .inl a2, .inl a3, .inl a4, .inl a5] [] h := by
  intro n
  induction n with
  | zero =>
    intro a1 a2 a3 a4 a5 h q
    have q9 : (none : Option (Int32 × HP)) = some r := q
    cases q9
  | succ n ih =>
    intro a1 a2 a3 a4 a5 h q
    exact am_run_ok CX ok_X1_reachOf (K := [(17, pk_X1_reachOf_17 (g_X1_reachOf_17 n))]) (am_K1 (Wp := am_W p l e R s m args below meth c cells slots G 5 (Q r)) (pk_X1_reachOf_17_ok (Wp := am_W p l e R s m args below meth c cells slots G 5 (Q r) 17) ih) am_K0) 23 17 _ _ _ q
set_option maxRecDepth 20000 in
theorem b_X1_reachOf (l : Launch) (G : AG) : am_B l G 5 cX1_reachOf RX1 am_tb P_X1_reachOf am_rI fl_X1_reachOf := by
  intro p e R s m args below meth c cells slots Q CX as h r q
  unfold fl_X1_reachOf at q
  split at q
  · exact am_run_ok CX ok_X1_reachOf (K := [(17, pk_X1_reachOf_17 (g_X1_reachOf_17 am_fu))]) (am_K1 (Wp := am_W p l e R s m args below meth c cells slots G 5 (Q r)) (pk_X1_reachOf_17_ok (Wp := am_W p l e R s m args below meth c cells slots G 5 (Q r) 17) (w_X1_reachOf_17 CX am_fu)) am_K0) 15 0 _ _ _ q
  · cases q
theorem s_X1_reachOf : ∀ as h x, fl_X1_reachOf as h = some x → (∀ k, (some 1 : Option Nat) = some k → ∃ (j : Nat) (as' : List AV), as = .inr (.inr (.inl (k, j))) :: as') ∧ (am_l0 as).length ≤ 5 := by
  intro as h x q
  unfold fl_X1_reachOf at q
  split at q
  · exact ⟨fun k e => by cases e; exact ⟨_, _, rfl⟩, Nat.le_of_ble_eq_true rfl⟩
  · cases q
theorem M_X1_reachOf (l : Launch) (G : AG) : am_M l G yX1_reachOf cX1_reachOf 5 (some .int) 4 97 (some 1) F_X1_reachOf := am_M_of (f := fl_X1_reachOf) (toR := fun x => (some (.inl x.1), x.2)) (P := P_X1_reachOf) (Rr := am_rI) (own := RX1) (by decide) rfl (fun _ _ => rfl) s_X1_reachOf am_wrI am_rkI pf_RX1 pk_RX1 ps_RX1 (List.forall_mem_cons.mpr ⟨cv_RX1_125 l G (by decide) (by decide), (fun _ q => by cases q)⟩) (fun _ q => by cases q) (fun _ q => by cases q) (b_X1_reachOf l G)
theorem cv_RX1_128 (l : Launch) (G : AG) {fr lo : Nat} (h1 : 4 + 1 ≤ fr) (h2 : 8 + (5 + 11) + 97 ≤ lo) : am_cvOK l G RX1 fr lo (128, 2, F_X1_reachOf) := ⟨yX1_reachOf, cX1_reachOf, 5, (some .int), 4, 97, 1, RX1, M_X1_reachOf l G, ⟨(am_tb_mem (wd_11 _ (List.mem_of_getElem? (i := 11) rfl))), (am_tb_mem (wd_10 _ (List.mem_of_getElem? (i := 9) rfl))), (am_tb_mem (wd_10 _ (List.mem_of_getElem? (i := 10) rfl))), (am_tb_mem (wd_1 _ (List.mem_of_getElem? (i := 20) rfl))), (am_tb_mem (wd_10 _ (List.mem_of_getElem? (i := 11) rfl)))⟩, ⟨rfl, by decide, by decide, by decide +kernel⟩, Or.inl ⟨by decide, rfl⟩, h1, h2⟩
def C_X1_canCome : List AC := [(0, .aload_n 0, 1, []), (1, .iload_n 1, 2, []), (2, .invokevirtual 128, 5, []), (5, .iload_n 2, 6, []), (6, .ishr, 7, []), (7, .iconst 1, 8, []), (8, .iand, 9, []), (9, .ifCond .eq 7, 12, [16]), (12, .iconst 1, 13, []), (13, .goto 4, 16, [17]), (16, .iconst 0, 17, []), (17, .ireturn, 18, [])]
theorem ok_X1_canCome : ∀ x ∈ C_X1_canCome, am_ok cX1_canCome 3 x = true := by decide +kernel
noncomputable def P_X1_canCome : AP := (PF_RX1, PK_RX1, PS_RX1, [(128, 2, F_X1_reachOf)], [], [])
noncomputable def f_X1_canCome (a1 : Nat) (a2 : Int32) (a3 : Int32) (h : HP) : Option (Int32 × HP) := (f_X1_reachOf a1 a2 h).bind (fun q_1 => if (q_1.1 >>> (a3 &&& 31)) &&& 1 = (0 : Int32) then (some (0, q_1.2)) else (some (1, q_1.2)))
noncomputable def fl_X1_canCome : List AV → HP → Option (Int32 × HP) := fun as h => match as with
  | [.inr (.inr (.inl (1, a1))), .inl a2, .inl a3] => f_X1_canCome a1 a2 a3 h
  | _ => none
noncomputable def F_X1_canCome : AF := .inl fl_X1_canCome
set_option maxRecDepth 20000 in
theorem b_X1_canCome (l : Launch) (G : AG) : am_B l G 3 cX1_canCome RX1 am_tb P_X1_canCome am_rZ fl_X1_canCome := by
  intro p e R s m args below meth c cells slots Q CX as h r q
  unfold fl_X1_canCome at q
  split at q
  · exact am_run_ok CX ok_X1_canCome (K := []) (am_K0 (Wp := am_W p l e R s m args below meth c cells slots G 3 (Q r))) 14 0 _ _ _ q
  · cases q
theorem s_X1_canCome : ∀ as h x, fl_X1_canCome as h = some x → (∀ k, (some 1 : Option Nat) = some k → ∃ (j : Nat) (as' : List AV), as = .inr (.inr (.inl (k, j))) :: as') ∧ (am_l0 as).length ≤ 3 := by
  intro as h x q
  unfold fl_X1_canCome at q
  split at q
  · exact ⟨fun k e => by cases e; exact ⟨_, _, rfl⟩, Nat.le_of_ble_eq_true rfl⟩
  · cases q
theorem M_X1_canCome (l : Launch) (G : AG) : am_M l G yX1_canCome cX1_canCome 3 (some .boolean) 5 121 (some 1) F_X1_canCome := am_M_of (f := fl_X1_canCome) (toR := fun x => (some (.inl x.1), x.2)) (P := P_X1_canCome) (Rr := am_rZ) (own := RX1) (by decide) rfl (fun _ _ => rfl) s_X1_canCome am_wrI am_rkZ pf_RX1 pk_RX1 ps_RX1 (List.forall_mem_cons.mpr ⟨cv_RX1_128 l G (by decide) (by decide), (fun _ q => by cases q)⟩) (fun _ q => by cases q) (fun _ q => by cases q) (b_X1_canCome l G)
def C_X1_turnsTo : List AC := [(0, .iconst 1, 1, []), (1, .iload_n 2, 2, []), (2, .ishl, 3, []), (3, .istore 4, 5, []), (5, .iload 4, 7, []), (7, .istore 5, 9, []), (9, .iconst 0, 10, []), (10, .istore 6, 12, []), (12, .iload 6, 14, []), (14, .bipush 16, 16, []), (16, .if_icmp .ge 47, 19, [63]), (19, .iload 5, 21, []), (21, .ifCond .eq 42, 24, [63]), (24, .iload 5, 26, []), (26, .iload_n 3, 27, []), (27, .ishr, 28, []), (28, .iconst 1, 29, []), (29, .iand, 30, []), (30, .ifCond .eq 6, 33, [36]), (33, .iload 6, 35, []), (35, .ireturn, 36, []), (36, .aload_n 0, 37, []), (37, .iload_n 1, 38, []), (38, .iload 5, 40, []), (40, .invokevirtual 125, 43, []), (43, .iload 4, 45, []), (45, .iconst (-1), 46, []), (46, .ixor, 47, []), (47, .iand, 48, []), (48, .istore 5, 50, []), (50, .iload 4, 52, []), (52, .iload 5, 54, []), (54, .ior, 55, []), (55, .istore 4, 57, []), (57, .iinc 6 1, 60, []), (60, .goto (-48), 63, [12]), (63, .iconst (-1), 64, []), (64, .ireturn, 65, [])]
theorem ok_X1_turnsTo : ∀ x ∈ C_X1_turnsTo, am_ok cX1_turnsTo 7 x = true := by decide +kernel
noncomputable def P_X1_turnsTo : AP := (PF_RX1, PK_RX1, PS_RX1, [(125, 3, F_X1_oneTurnFrom)], [], [])
noncomputable def g_X1_turnsTo_12  : Nat → Nat → Int32 → Int32 → Int32 → Int32 → Int32 → HP → Option (Int32 × HP)
  | 0, _, _, _, _, _, _, _ => none
  | n + 1, a1, a2, a3, a4, a5, a6, h => if (16 : Int32) ≤ a6 then (some ((-1), h)) else (if a5 = (0 : Int32) then (some ((-1), h)) else (if (a5 >>> (a3 &&& 31)) &&& 1 = (0 : Int32) then ((f_X1_oneTurnFrom a1 a2 a5 h).bind (fun q_1 => g_X1_turnsTo_12 n a1 a2 a3 (a4 ||| (q_1.1 &&& (a4 ^^^ ((-1))))) (q_1.1 &&& (a4 ^^^ ((-1)))) (a6 + 1) q_1.2)) else (some (a6, h))))
def pk_X1_turnsTo_12 (k : Nat → Int32 → Int32 → Int32 → Int32 → Int32 → HP → Option (Int32 × HP)) : List AV → List AV → HP → Option (Int32 × HP) := fun L st h => match L, st with
  | [.inr (.inr (.inl (1, a1))), .inl a2, .inl _, .inl a3, .inl a4, .inl a5, .inl a6], [] => k a1 a2 a3 a4 a5 a6 h
  | _, _ => none
theorem pk_X1_turnsTo_12_ok {Wp : List AV → List AV → HP → Prop} {r : (Int32 × HP)} {k : Nat → Int32 → Int32 → Int32 → Int32 → Int32 → HP → Option (Int32 × HP)} (hk : ∀ (a1 : Nat) (a2 : Int32) (a3 : Int32) (a4 : Int32) (a5 : Int32) (a6 : Int32) (w1 : Int32) (h : HP), k a1 a2 a3 a4 a5 a6 h = some r → Wp [.inr (.inr (.inl (1, a1))), .inl a2, .inl w1, .inl a3, .inl a4, .inl a5, .inl a6] [] h) : ∀ L st h, pk_X1_turnsTo_12 k L st h = some r → Wp L st h := by
  intro L st h q
  unfold pk_X1_turnsTo_12 at q
  split at q
  · exact hk _ _ _ _ _ _ _ _ q
  · cases q
noncomputable def f_X1_turnsTo (a1 : Nat) (a2 : Int32) (a3 : Int32) (a4 : Int32) (h : HP) : Option (Int32 × HP) := g_X1_turnsTo_12 am_fu a1 a2 a4 (1 <<< (a3 &&& 31)) (1 <<< (a3 &&& 31)) 0 h
noncomputable def fl_X1_turnsTo : List AV → HP → Option (Int32 × HP) := fun as h => match as with
  | [.inr (.inr (.inl (1, a1))), .inl a2, .inl a3, .inl a4] => f_X1_turnsTo a1 a2 a3 a4 h
  | _ => none
noncomputable def F_X1_turnsTo : AF := .inl fl_X1_turnsTo
set_option maxRecDepth 20000 in
theorem w_X1_turnsTo_12 {p : Program} {l : Launch} {e : Env} {R : Room} {s : State} {m : MethodId} {args : Array Value} {below : List Frame} {meth : Method} {c : Code} {cells slots : Nat} {G : AG} {Q : (Int32 × HP) → State → Prop} (CX : am_X p l e R s m args below meth c cells slots G 7 cX1_turnsTo RX1 am_tb P_X1_turnsTo am_rI Q) {r : (Int32 × HP)} : ∀ (n : Nat) (a1 : Nat) (a2 : Int32) (a3 : Int32) (a4 : Int32) (a5 : Int32) (a6 : Int32) (w1 : Int32) (h : HP), g_X1_turnsTo_12 n a1 a2 a3 a4 a5 a6 h = some r → am_W p l e R s m args below meth c cells slots G 7 (Q r) 12 [.inr (.inr (.inl (1, a1))), .inl a2, .inl w1, .inl a3, .inl a4, .inl a5, .inl a6] [] h := by
  intro n
  induction n with
  | zero =>
    intro a1 a2 a3 a4 a5 a6 w1 h q
    have q9 : (none : Option (Int32 × HP)) = some r := q
    cases q9
  | succ n ih =>
    intro a1 a2 a3 a4 a5 a6 w1 h q
    exact am_run_ok CX ok_X1_turnsTo (K := [(12, pk_X1_turnsTo_12 (g_X1_turnsTo_12 n))]) (am_K1 (Wp := am_W p l e R s m args below meth c cells slots G 7 (Q r)) (pk_X1_turnsTo_12_ok (Wp := am_W p l e R s m args below meth c cells slots G 7 (Q r) 12) ih) am_K0) 29 12 _ _ _ q
set_option maxRecDepth 20000 in
theorem b_X1_turnsTo (l : Launch) (G : AG) : am_B l G 7 cX1_turnsTo RX1 am_tb P_X1_turnsTo am_rI fl_X1_turnsTo := by
  intro p e R s m args below meth c cells slots Q CX as h r q
  unfold fl_X1_turnsTo at q
  split at q
  · exact am_run_ok CX ok_X1_turnsTo (K := [(12, pk_X1_turnsTo_12 (g_X1_turnsTo_12 am_fu))]) (am_K1 (Wp := am_W p l e R s m args below meth c cells slots G 7 (Q r)) (pk_X1_turnsTo_12_ok (Wp := am_W p l e R s m args below meth c cells slots G 7 (Q r) 12) (w_X1_turnsTo_12 CX am_fu)) am_K0) 11 0 _ _ _ q
  · cases q
theorem s_X1_turnsTo : ∀ as h x, fl_X1_turnsTo as h = some x → (∀ k, (some 1 : Option Nat) = some k → ∃ (j : Nat) (as' : List AV), as = .inr (.inr (.inl (k, j))) :: as') ∧ (am_l0 as).length ≤ 7 := by
  intro as h x q
  unfold fl_X1_turnsTo at q
  split at q
  · exact ⟨fun k e => by cases e; exact ⟨_, _, rfl⟩, Nat.le_of_ble_eq_true rfl⟩
  · cases q
theorem M_X1_turnsTo (l : Launch) (G : AG) : am_M l G yX1_turnsTo cX1_turnsTo 7 (some .int) 4 97 (some 1) F_X1_turnsTo := am_M_of (f := fl_X1_turnsTo) (toR := fun x => (some (.inl x.1), x.2)) (P := P_X1_turnsTo) (Rr := am_rI) (own := RX1) (by decide) rfl (fun _ _ => rfl) s_X1_turnsTo am_wrI am_rkI pf_RX1 pk_RX1 ps_RX1 (List.forall_mem_cons.mpr ⟨cv_RX1_125 l G (by decide) (by decide), (fun _ q => by cases q)⟩) (fun _ q => by cases q) (fun _ q => by cases q) (b_X1_turnsTo l G)
theorem cv_RX1_131 (l : Launch) (G : AG) {fr lo : Nat} (h1 : 4 + 1 ≤ fr) (h2 : 8 + (7 + 11) + 97 ≤ lo) : am_cvOK l G RX1 fr lo (131, 4, F_X1_turnsTo) := ⟨yX1_turnsTo, cX1_turnsTo, 7, (some .int), 4, 97, 1, RX1, M_X1_turnsTo l G, ⟨(am_tb_mem (wd_11 _ (List.mem_of_getElem? (i := 1) rfl))), (am_tb_mem (wd_10 _ (List.mem_of_getElem? (i := 30) rfl))), (am_tb_mem (wd_10 _ (List.mem_of_getElem? (i := 31) rfl))), (am_tb_mem (wd_1 _ (List.mem_of_getElem? (i := 20) rfl))), (am_tb_mem (wd_10 _ (List.mem_of_getElem? (i := 32) rfl)))⟩, ⟨rfl, by decide, by decide, by decide +kernel⟩, Or.inl ⟨by decide, rfl⟩, h1, h2⟩
theorem cv_RX1_134 (l : Launch) (G : AG) {fr lo : Nat} (h1 : 3 + 1 ≤ fr) (h2 : 8 + (3 + 11) + 66 ≤ lo) : am_cvOK l G RX1 fr lo (134, 3, F_X1_ledTo) := ⟨yX1_ledTo, cX1_ledTo, 3, (some .int), 3, 66, 1, RX1, M_X1_ledTo l G, ⟨(am_tb_mem (wd_11 _ (List.mem_of_getElem? (i := 2) rfl))), (am_tb_mem (wd_6 _ (List.mem_of_getElem? (i := 10) rfl))), (am_tb_mem (wd_6 _ (List.mem_of_getElem? (i := 11) rfl))), (am_tb_mem (wd_1 _ (List.mem_of_getElem? (i := 20) rfl))), (am_tb_mem (wd_6 _ (List.mem_of_getElem? (i := 12) rfl)))⟩, ⟨rfl, by decide, by decide, by decide +kernel⟩, Or.inl ⟨by decide, rfl⟩, h1, h2⟩
def C_X1_firstOnWay : List AC := [(0, .aload_n 0, 1, []), (1, .getfield 24, 4, []), (4, .iload_n 1, 5, []), (5, .aaload, 6, []), (6, .getfield 63, 9, []), (9, .istore_n 3, 10, []), (10, .aload_n 0, 11, []), (11, .iload_n 1, 12, []), (12, .iload_n 3, 13, []), (13, .iload_n 2, 14, []), (14, .invokevirtual 131, 17, []), (17, .istore 4, 19, []), (19, .iconst 0, 20, []), (20, .istore 5, 22, []), (22, .iload 5, 24, []), (24, .aload_n 0, 25, []), (25, .getfield 32, 28, []), (28, .if_icmp .ge 57, 31, [85]), (31, .iload 4, 33, []), (33, .ifCond .le 52, 36, [85]), (36, .aload_n 0, 37, []), (37, .iload_n 1, 38, []), (38, .iload 5, 40, []), (40, .invokevirtual 77, 43, []), (43, .ifCond .eq 36, 46, [79]), (46, .aload_n 0, 47, []), (47, .iload 5, 49, []), (49, .iload_n 3, 50, []), (50, .invokevirtual 90, 53, []), (53, .ifCond .eq 26, 56, [79]), (56, .aload_n 0, 57, []), (57, .iload_n 1, 58, []), (58, .aload_n 0, 59, []), (59, .iload 5, 61, []), (61, .iload_n 3, 62, []), (62, .invokevirtual 134, 65, []), (65, .iload_n 2, 66, []), (66, .invokevirtual 131, 69, []), (69, .iload 4, 71, []), (71, .iconst 1, 72, []), (72, .isub, 73, []), (73, .if_icmp .ne 6, 76, [79]), (76, .iload 5, 78, []), (78, .ireturn, 79, []), (79, .iinc 5 1, 82, []), (82, .goto (-60), 85, [22]), (85, .iconst (-1), 86, []), (86, .ireturn, 87, [])]
theorem ok_X1_firstOnWay : ∀ x ∈ C_X1_firstOnWay, am_ok cX1_firstOnWay 6 x = true := by decide +kernel
noncomputable def P_X1_firstOnWay : AP := (PF_RX1, PK_RX1, PS_RX1, [(77, 3, F_X1_holds), (90, 3, F_X1_opensIn), (131, 4, F_X1_turnsTo), (134, 3, F_X1_ledTo)], [], [])
noncomputable def g_X1_firstOnWay_22  : Nat → Nat → Int32 → Int32 → Int32 → Int32 → Int32 → HP → Option (Int32 × HP)
  | 0, _, _, _, _, _, _, _ => none
  | n + 1, a1, a2, a3, a4, a5, a6, h => if h_rI h 1 a1 3 ≤ a6 then (some ((-1), h)) else (if a5 ≤ (0 : Int32) then (some ((-1), h)) else ((f_X1_holds a1 a2 a6 h).bind (fun q_1 => if q_1.1 = (0 : Int32) then (g_X1_firstOnWay_22 n a1 a2 a3 a4 a5 (a6 + 1) q_1.2) else ((f_X1_opensIn a1 a6 a4 q_1.2).bind (fun q_2 => if q_2.1 = (0 : Int32) then (g_X1_firstOnWay_22 n a1 a2 a3 a4 a5 (a6 + 1) q_2.2) else ((f_X1_ledTo a1 a6 a4 q_2.2).bind (fun q_3 => (f_X1_turnsTo a1 a2 q_3.1 a3 q_3.2).bind (fun q_4 => if q_4.1 = a5 - 1 then (some (a6, q_4.2)) else (g_X1_firstOnWay_22 n a1 a2 a3 a4 a5 (a6 + 1) q_4.2)))))))))
def pk_X1_firstOnWay_22 (k : Nat → Int32 → Int32 → Int32 → Int32 → Int32 → HP → Option (Int32 × HP)) : List AV → List AV → HP → Option (Int32 × HP) := fun L st h => match L, st with
  | [.inr (.inr (.inl (1, a1))), .inl a2, .inl a3, .inl a4, .inl a5, .inl a6], [] => k a1 a2 a3 a4 a5 a6 h
  | _, _ => none
theorem pk_X1_firstOnWay_22_ok {Wp : List AV → List AV → HP → Prop} {r : (Int32 × HP)} {k : Nat → Int32 → Int32 → Int32 → Int32 → Int32 → HP → Option (Int32 × HP)} (hk : ∀ (a1 : Nat) (a2 : Int32) (a3 : Int32) (a4 : Int32) (a5 : Int32) (a6 : Int32) (h : HP), k a1 a2 a3 a4 a5 a6 h = some r → Wp [.inr (.inr (.inl (1, a1))), .inl a2, .inl a3, .inl a4, .inl a5, .inl a6] [] h) : ∀ L st h, pk_X1_firstOnWay_22 k L st h = some r → Wp L st h := by
  intro L st h q
  unfold pk_X1_firstOnWay_22 at q
  split at q
  · exact hk _ _ _ _ _ _ _ q
  · cases q
noncomputable def f_X1_firstOnWay (a1 : Nat) (a2 : Int32) (a3 : Int32) (h : HP) : Option (Int32 × HP) := (am_ix a2 6).bind (fun k_1 => (f_X1_turnsTo a1 a2 (h_rI h 2 (6 * a1 + k_1) 0) a3 h).bind (fun q_2 => g_X1_firstOnWay_22 am_fu a1 a2 a3 (h_rI h 2 (6 * a1 + k_1) 0) q_2.1 0 q_2.2))
noncomputable def fl_X1_firstOnWay : List AV → HP → Option (Int32 × HP) := fun as h => match as with
  | [.inr (.inr (.inl (1, a1))), .inl a2, .inl a3] => f_X1_firstOnWay a1 a2 a3 h
  | _ => none
noncomputable def F_X1_firstOnWay : AF := .inl fl_X1_firstOnWay
set_option maxRecDepth 20000 in
theorem w_X1_firstOnWay_22 {p : Program} {l : Launch} {e : Env} {R : Room} {s : State} {m : MethodId} {args : Array Value} {below : List Frame} {meth : Method} {c : Code} {cells slots : Nat} {G : AG} {Q : (Int32 × HP) → State → Prop} (CX : am_X p l e R s m args below meth c cells slots G 6 cX1_firstOnWay RX1 am_tb P_X1_firstOnWay am_rI Q) {r : (Int32 × HP)} : ∀ (n : Nat) (a1 : Nat) (a2 : Int32) (a3 : Int32) (a4 : Int32) (a5 : Int32) (a6 : Int32) (h : HP), g_X1_firstOnWay_22 n a1 a2 a3 a4 a5 a6 h = some r → am_W p l e R s m args below meth c cells slots G 6 (Q r) 22 [.inr (.inr (.inl (1, a1))), .inl a2, .inl a3, .inl a4, .inl a5, .inl a6] [] h := by
  intro n
  induction n with
  | zero =>
    intro a1 a2 a3 a4 a5 a6 h q
    have q9 : (none : Option (Int32 × HP)) = some r := q
    cases q9
  | succ n ih =>
    intro a1 a2 a3 a4 a5 a6 h q
    exact am_run_ok CX ok_X1_firstOnWay (K := [(22, pk_X1_firstOnWay_22 (g_X1_firstOnWay_22 n))]) (am_K1 (Wp := am_W p l e R s m args below meth c cells slots G 6 (Q r)) (pk_X1_firstOnWay_22_ok (Wp := am_W p l e R s m args below meth c cells slots G 6 (Q r) 22) ih) am_K0) 33 22 _ _ _ q
set_option maxRecDepth 20000 in
theorem b_X1_firstOnWay (l : Launch) (G : AG) : am_B l G 6 cX1_firstOnWay RX1 am_tb P_X1_firstOnWay am_rI fl_X1_firstOnWay := by
  intro p e R s m args below meth c cells slots Q CX as h r q
  unfold fl_X1_firstOnWay at q
  split at q
  · exact am_run_ok CX ok_X1_firstOnWay (K := [(22, pk_X1_firstOnWay_22 (g_X1_firstOnWay_22 am_fu))]) (am_K1 (Wp := am_W p l e R s m args below meth c cells slots G 6 (Q r)) (pk_X1_firstOnWay_22_ok (Wp := am_W p l e R s m args below meth c cells slots G 6 (Q r) 22) (w_X1_firstOnWay_22 CX am_fu)) am_K0) 17 0 _ _ _ q
  · cases q
theorem s_X1_firstOnWay : ∀ as h x, fl_X1_firstOnWay as h = some x → (∀ k, (some 1 : Option Nat) = some k → ∃ (j : Nat) (as' : List AV), as = .inr (.inr (.inl (k, j))) :: as') ∧ (am_l0 as).length ≤ 6 := by
  intro as h x q
  unfold fl_X1_firstOnWay at q
  split at q
  · exact ⟨fun k e => by cases e; exact ⟨_, _, rfl⟩, Nat.le_of_ble_eq_true rfl⟩
  · cases q
theorem M_X1_firstOnWay (l : Launch) (G : AG) : am_M l G yX1_firstOnWay cX1_firstOnWay 6 (some .int) 5 123 (some 1) F_X1_firstOnWay := am_M_of (f := fl_X1_firstOnWay) (toR := fun x => (some (.inl x.1), x.2)) (P := P_X1_firstOnWay) (Rr := am_rI) (own := RX1) (by decide) rfl (fun _ _ => rfl) s_X1_firstOnWay am_wrI am_rkI pf_RX1 pk_RX1 ps_RX1 (List.forall_mem_cons.mpr ⟨cv_RX1_77 l G (by decide) (by decide), (List.forall_mem_cons.mpr ⟨cv_RX1_90 l G (by decide) (by decide), (List.forall_mem_cons.mpr ⟨cv_RX1_131 l G (by decide) (by decide), (List.forall_mem_cons.mpr ⟨cv_RX1_134 l G (by decide) (by decide), (fun _ q => by cases q)⟩)⟩)⟩)⟩) (fun _ q => by cases q) (fun _ q => by cases q) (b_X1_firstOnWay l G)
theorem cv_RX1_135 (l : Launch) (G : AG) {fr lo : Nat} (h1 : 4 + 1 ≤ fr) (h2 : 8 + (3 + 11) + 87 ≤ lo) : am_cvOK l G RX1 fr lo (135, 3, F_X1_mayLend) := ⟨yX1_mayLend, cX1_mayLend, 3, (some .boolean), 4, 87, 1, RX1, M_X1_mayLend l G, ⟨(am_tb_mem (wd_11 _ (List.mem_of_getElem? (i := 16) rfl))), (am_tb_mem (wd_11 _ (List.mem_of_getElem? (i := 17) rfl))), (am_tb_mem (wd_11 _ (List.mem_of_getElem? (i := 18) rfl))), (am_tb_mem (wd_1 _ (List.mem_of_getElem? (i := 20) rfl))), (am_tb_mem (wd_11 _ (List.mem_of_getElem? (i := 19) rfl)))⟩, ⟨rfl, by decide, by decide, by decide +kernel⟩, Or.inl ⟨by decide, rfl⟩, h1, h2⟩
def C_X1_firstWanted : List AC := [(0, .iload_n 3, 1, []), (1, .istore 4, 3, []), (3, .iload 4, 5, []), (5, .aload_n 0, 6, []), (6, .getfield 32, 9, []), (9, .if_icmp .ge 60, 12, [69]), (12, .aload_n 0, 13, []), (13, .iload 4, 15, []), (15, .iload_n 1, 16, []), (16, .invokevirtual 135, 19, []), (19, .ifCond .eq 44, 22, [63]), (22, .aload_n 0, 23, []), (23, .getfield 17, 26, []), (26, .iload 4, 28, []), (28, .aaload, 29, []), (29, .iload_n 1, 30, []), (30, .putfield 57, 33, []), (33, .aload_n 0, 34, []), (34, .iload_n 1, 35, []), (35, .invokevirtual 128, 38, []), (38, .istore 5, 40, []), (40, .aload_n 0, 41, []), (41, .getfield 17, 44, []), (44, .iload 4, 46, []), (46, .aaload, 47, []), (47, .iconst (-1), 48, []), (48, .putfield 57, 51, []), (51, .iload 5, 53, []), (53, .iload_n 2, 54, []), (54, .ishr, 55, []), (55, .iconst 1, 56, []), (56, .iand, 57, []), (57, .ifCond .eq 6, 60, [63]), (60, .iload 4, 62, []), (62, .ireturn, 63, []), (63, .iinc 4 1, 66, []), (66, .goto (-63), 69, [3]), (69, .iconst (-1), 70, []), (70, .ireturn, 71, [])]
theorem ok_X1_firstWanted : ∀ x ∈ C_X1_firstWanted, am_ok cX1_firstWanted 6 x = true := by decide +kernel
noncomputable def P_X1_firstWanted : AP := (PF_RX1, PK_RX1, PS_RX1, [(128, 2, F_X1_reachOf), (135, 3, F_X1_mayLend)], [], [])
noncomputable def g_X1_firstWanted_3  : Nat → Nat → Int32 → Int32 → Int32 → HP → Option (Int32 × HP)
  | 0, _, _, _, _, _ => none
  | n + 1, a1, a2, a3, a4, h => if h_rI h 1 a1 3 ≤ a4 then (some ((-1), h)) else ((f_X1_mayLend a1 a4 a2 h).bind (fun q_1 => if q_1.1 = (0 : Int32) then (g_X1_firstWanted_3 n a1 a2 a3 (a4 + 1) q_1.2) else ((am_ix a4 8).bind (fun k_2 => (f_X1_reachOf a1 a2 (h_wI q_1.2 0 (8 * a1 + k_2) 4 a2)).bind (fun q_3 => (am_ix a4 8).bind (fun k_4 => if (q_3.1 >>> (a3 &&& 31)) &&& 1 = (0 : Int32) then (g_X1_firstWanted_3 n a1 a2 a3 (a4 + 1) (h_wI q_3.2 0 (8 * a1 + k_4) 4 ((-1)))) else (some (a4, h_wI q_3.2 0 (8 * a1 + k_4) 4 ((-1))))))))))
def pk_X1_firstWanted_3 (k : Nat → Int32 → Int32 → Int32 → HP → Option (Int32 × HP)) : List AV → List AV → HP → Option (Int32 × HP) := fun L st h => match L, st with
  | [.inr (.inr (.inl (1, a1))), .inl a2, .inl a3, .inl _, .inl a4, _], [] => k a1 a2 a3 a4 h
  | _, _ => none
theorem pk_X1_firstWanted_3_ok {Wp : List AV → List AV → HP → Prop} {r : (Int32 × HP)} {k : Nat → Int32 → Int32 → Int32 → HP → Option (Int32 × HP)} (hk : ∀ (a1 : Nat) (a2 : Int32) (a3 : Int32) (a4 : Int32) (w1 : Int32) (w2 : AV) (h : HP), k a1 a2 a3 a4 h = some r → Wp [.inr (.inr (.inl (1, a1))), .inl a2, .inl a3, .inl w1, .inl a4, w2] [] h) : ∀ L st h, pk_X1_firstWanted_3 k L st h = some r → Wp L st h := by
  intro L st h q
  unfold pk_X1_firstWanted_3 at q
  split at q
  · exact hk _ _ _ _ _ _ _ q
  · cases q
noncomputable def f_X1_firstWanted (a1 : Nat) (a2 : Int32) (a3 : Int32) (a4 : Int32) (h : HP) : Option (Int32 × HP) := g_X1_firstWanted_3 am_fu a1 a2 a3 a4 h
noncomputable def fl_X1_firstWanted : List AV → HP → Option (Int32 × HP) := fun as h => match as with
  | [.inr (.inr (.inl (1, a1))), .inl a2, .inl a3, .inl a4] => f_X1_firstWanted a1 a2 a3 a4 h
  | _ => none
noncomputable def F_X1_firstWanted : AF := .inl fl_X1_firstWanted
set_option maxRecDepth 20000 in
theorem w_X1_firstWanted_3 {p : Program} {l : Launch} {e : Env} {R : Room} {s : State} {m : MethodId} {args : Array Value} {below : List Frame} {meth : Method} {c : Code} {cells slots : Nat} {G : AG} {Q : (Int32 × HP) → State → Prop} (CX : am_X p l e R s m args below meth c cells slots G 6 cX1_firstWanted RX1 am_tb P_X1_firstWanted am_rI Q) {r : (Int32 × HP)} : ∀ (n : Nat) (a1 : Nat) (a2 : Int32) (a3 : Int32) (a4 : Int32) (w1 : Int32) (w2 : AV) (h : HP), g_X1_firstWanted_3 n a1 a2 a3 a4 h = some r → am_W p l e R s m args below meth c cells slots G 6 (Q r) 3 [.inr (.inr (.inl (1, a1))), .inl a2, .inl a3, .inl w1, .inl a4, w2] [] h := by
  intro n
  induction n with
  | zero =>
    intro a1 a2 a3 a4 w1 w2 h q
    have q9 : (none : Option (Int32 × HP)) = some r := q
    cases q9
  | succ n ih =>
    intro a1 a2 a3 a4 w1 w2 h q
    exact am_run_ok CX ok_X1_firstWanted (K := [(3, pk_X1_firstWanted_3 (g_X1_firstWanted_3 n))]) (am_K1 (Wp := am_W p l e R s m args below meth c cells slots G 6 (Q r)) (pk_X1_firstWanted_3_ok (Wp := am_W p l e R s m args below meth c cells slots G 6 (Q r) 3) ih) am_K0) 36 3 _ _ _ q
set_option maxRecDepth 20000 in
theorem b_X1_firstWanted (l : Launch) (G : AG) : am_B l G 6 cX1_firstWanted RX1 am_tb P_X1_firstWanted am_rI fl_X1_firstWanted := by
  intro p e R s m args below meth c cells slots Q CX as h r q
  unfold fl_X1_firstWanted at q
  split at q
  · exact am_run_ok CX ok_X1_firstWanted (K := [(3, pk_X1_firstWanted_3 (g_X1_firstWanted_3 am_fu))]) (am_K1 (Wp := am_W p l e R s m args below meth c cells slots G 6 (Q r)) (pk_X1_firstWanted_3_ok (Wp := am_W p l e R s m args below meth c cells slots G 6 (Q r) 3) (w_X1_firstWanted_3 CX am_fu)) am_K0) 5 0 _ _ _ q
  · cases q
theorem s_X1_firstWanted : ∀ as h x, fl_X1_firstWanted as h = some x → (∀ k, (some 1 : Option Nat) = some k → ∃ (j : Nat) (as' : List AV), as = .inr (.inr (.inl (k, j))) :: as') ∧ (am_l0 as).length ≤ 6 := by
  intro as h x q
  unfold fl_X1_firstWanted at q
  split at q
  · exact ⟨fun k e => by cases e; exact ⟨_, _, rfl⟩, Nat.le_of_ble_eq_true rfl⟩
  · cases q
theorem M_X1_firstWanted (l : Launch) (G : AG) : am_M l G yX1_firstWanted cX1_firstWanted 6 (some .int) 5 121 (some 1) F_X1_firstWanted := am_M_of (f := fl_X1_firstWanted) (toR := fun x => (some (.inl x.1), x.2)) (P := P_X1_firstWanted) (Rr := am_rI) (own := RX1) (by decide) rfl (fun _ _ => rfl) s_X1_firstWanted am_wrI am_rkI pf_RX1 pk_RX1 ps_RX1 (List.forall_mem_cons.mpr ⟨cv_RX1_128 l G (by decide) (by decide), (List.forall_mem_cons.mpr ⟨cv_RX1_135 l G (by decide) (by decide), (fun _ q => by cases q)⟩)⟩) (fun _ q => by cases q) (fun _ q => by cases q) (b_X1_firstWanted l G)
