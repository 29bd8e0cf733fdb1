/-! 13.loans1 -/
def C_X6_isKind : List AC := [(0, .iload_n 0, 1, []), (1, .ifCond .lt 13, 4, [14]), (4, .iload_n 0, 5, []), (5, .bipush 6, 7, []), (7, .if_icmp .ge 7, 10, [14]), (10, .iconst 1, 11, []), (11, .goto 4, 14, [15]), (14, .iconst 0, 15, []), (15, .ireturn, 16, [])]
theorem ok_X6_isKind : ∀ x ∈ C_X6_isKind, am_ok cX6_isKind 1 x = true := by decide +kernel
noncomputable def P_X6_isKind : AP := (PF_RX6, PK_RX6, PS_RX6, [], [], [])
noncomputable def f_X6_isKind (a1 : Int32) (h : HP) : Option (Int32 × HP) := if a1 < (0 : Int32) then (some (0, h)) else (if (6 : Int32) ≤ a1 then (some (0, h)) else (some (1, h)))
noncomputable def fl_X6_isKind : List AV → HP → Option (Int32 × HP) := fun as h => match as with
  | [.inl a1] => f_X6_isKind a1 h
  | _ => none
noncomputable def F_X6_isKind : AF := .inl fl_X6_isKind
set_option maxRecDepth 20000 in
theorem b_X6_isKind (l : Launch) (G : AG) : am_B l G 1 cX6_isKind RX6 am_tb P_X6_isKind am_rZ fl_X6_isKind := by
  intro p e R s m args below meth c cells slots Q CX as h r q
  unfold fl_X6_isKind at q
  split at q
  · exact am_run_ok CX ok_X6_isKind (K := []) (am_K0 (Wp := am_W p l e R s m args below meth c cells slots G 1 (Q r))) 11 0 _ _ _ q
  · cases q
theorem s_X6_isKind : ∀ as h x, fl_X6_isKind as h = some x → (∀ k, (none : Option Nat) = some k → ∃ (j : Nat) (as' : List AV), as = .inr (.inr (.inl (k, j))) :: as') ∧ (am_l0 as).length ≤ 1 := by
  intro as h x q
  unfold fl_X6_isKind at q
  split at q
  · exact ⟨fun k e => (by cases e), Nat.le_of_ble_eq_true rfl⟩
  · cases q
theorem M_X6_isKind (l : Launch) (G : AG) : am_M l G yX6_isKind cX6_isKind 1 (some .boolean) 0 0 none F_X6_isKind := am_M_of (f := fl_X6_isKind) (toR := fun x => (some (.inl x.1), x.2)) (P := P_X6_isKind) (Rr := am_rZ) (own := RX6) (by decide) rfl (fun _ _ => rfl) s_X6_isKind am_wrI am_rkZ pf_RX6 pk_RX6 ps_RX6 (fun _ q => by cases q) (fun _ q => by cases q) (fun _ q => by cases q) (b_X6_isKind l G)
def C_X6_isRoom : List AC := [(0, .iload_n 0, 1, []), (1, .ifCond .lt 13, 4, [14]), (4, .iload_n 0, 5, []), (5, .bipush 16, 7, []), (7, .if_icmp .ge 7, 10, [14]), (10, .iconst 1, 11, []), (11, .goto 4, 14, [15]), (14, .iconst 0, 15, []), (15, .ireturn, 16, [])]
theorem ok_X6_isRoom : ∀ x ∈ C_X6_isRoom, am_ok cX6_isRoom 1 x = true := by decide +kernel
noncomputable def P_X6_isRoom : AP := (PF_RX6, PK_RX6, PS_RX6, [], [], [])
noncomputable def f_X6_isRoom (a1 : Int32) (h : HP) : Option (Int32 × HP) := if a1 < (0 : Int32) then (some (0, h)) else (if (16 : Int32) ≤ a1 then (some (0, h)) else (some (1, h)))
noncomputable def fl_X6_isRoom : List AV → HP → Option (Int32 × HP) := fun as h => match as with
  | [.inl a1] => f_X6_isRoom a1 h
  | _ => none
noncomputable def F_X6_isRoom : AF := .inl fl_X6_isRoom
set_option maxRecDepth 20000 in
theorem b_X6_isRoom (l : Launch) (G : AG) : am_B l G 1 cX6_isRoom RX6 am_tb P_X6_isRoom am_rZ fl_X6_isRoom := by
  intro p e R s m args below meth c cells slots Q CX as h r q
  unfold fl_X6_isRoom at q
  split at q
  · exact am_run_ok CX ok_X6_isRoom (K := []) (am_K0 (Wp := am_W p l e R s m args below meth c cells slots G 1 (Q r))) 11 0 _ _ _ q
  · cases q
theorem s_X6_isRoom : ∀ as h x, fl_X6_isRoom as h = some x → (∀ k, (none : Option Nat) = some k → ∃ (j : Nat) (as' : List AV), as = .inr (.inr (.inl (k, j))) :: as') ∧ (am_l0 as).length ≤ 1 := by
  intro as h x q
  unfold fl_X6_isRoom at q
  split at q
  · exact ⟨fun k e => (by cases e), Nat.le_of_ble_eq_true rfl⟩
  · cases q
theorem M_X6_isRoom (l : Launch) (G : AG) : am_M l G yX6_isRoom cX6_isRoom 1 (some .boolean) 0 0 none F_X6_isRoom := am_M_of (f := fl_X6_isRoom) (toR := fun x => (some (.inl x.1), x.2)) (P := P_X6_isRoom) (Rr := am_rZ) (own := RX6) (by decide) rfl (fun _ _ => rfl) s_X6_isRoom am_wrI am_rkZ pf_RX6 pk_RX6 ps_RX6 (fun _ q => by cases q) (fun _ q => by cases q) (fun _ q => by cases q) (b_X6_isRoom l G)
def C_X6_tell : List AC := [(0, .ldc 56, 2, []), (2, .iload_n 1, 3, []), (3, .isub, 4, []), (4, .istore_n 2, 5, []), (5, .iload_n 2, 6, []), (6, .ifCond .lt 19, 9, [25]), (9, .iload_n 2, 10, []), (10, .bipush 7, 12, []), (12, .if_icmp .ge 13, 15, [25]), (15, .aload_n 0, 16, []), (16, .getfield 45, 19, []), (19, .iload_n 2, 20, []), (20, .dup2, 21, []), (21, .iaload, 22, []), (22, .iconst 1, 23, []), (23, .iadd, 24, []), (24, .iastore, 25, []), (25, .iload_n 1, 26, []), (26, .ireturn, 27, [])]
theorem ok_X6_tell : ∀ x ∈ C_X6_tell, am_ok cX6_tell 3 x = true := by decide +kernel
noncomputable def P_X6_tell : AP := (PF_RX6, PK_RX6, PS_RX6, [], [], [])
noncomputable def f_X6_tell (a1 : Int32) (h : HP) : Option (Int32 × HP) := if ((-1000000001)) - a1 < (0 : Int32) then (some (a1, h)) else (if (7 : Int32) ≤ ((-1000000001)) - a1 then (some (a1, h)) else ((am_ix (((-1000000001)) - a1) 7).bind (fun k_1 => (am_ix (((-1000000001)) - a1) 7).bind (fun k_2 => some (a1, h_wI h 11 1 k_2 ((h_rI h 11 1 k_1) + 1))))))
noncomputable def fl_X6_tell : List AV → HP → Option (Int32 × HP) := fun as h => match as with
  | [.inr (.inr (.inl (6, 0))), .inl a1] => f_X6_tell a1 h
  | _ => none
noncomputable def F_X6_tell : AF := .inl fl_X6_tell
set_option maxRecDepth 20000 in
theorem b_X6_tell (l : Launch) (G : AG) : am_B l G 3 cX6_tell RX6 am_tb P_X6_tell am_rI fl_X6_tell := by
  intro p e R s m args below meth c cells slots Q CX as h r q
  unfold fl_X6_tell at q
  split at q
  · exact am_run_ok CX ok_X6_tell (K := []) (am_K0 (Wp := am_W p l e R s m args below meth c cells slots G 3 (Q r))) 22 0 _ _ _ q
  · cases q
theorem s_X6_tell : ∀ as h x, fl_X6_tell as h = some x → (∀ k, (some 6 : Option Nat) = some k → ∃ (j : Nat) (as' : List AV), as = .inr (.inr (.inl (k, j))) :: as') ∧ (am_l0 as).length ≤ 3 := by
  intro as h x q
  unfold fl_X6_tell at q
  split at q
  · exact ⟨fun k e => by cases e; exact ⟨_, _, rfl⟩, Nat.le_of_ble_eq_true rfl⟩
  · cases q
theorem M_X6_tell (l : Launch) (G : AG) : am_M l G yX6_tell cX6_tell 3 (some .int) 0 0 (some 6) F_X6_tell := am_M_of (f := fl_X6_tell) (toR := fun x => (some (.inl x.1), x.2)) (P := P_X6_tell) (Rr := am_rI) (own := RX6) (by decide) rfl (fun _ _ => rfl) s_X6_tell am_wrI am_rkI pf_RX6 pk_RX6 ps_RX6 (fun _ q => by cases q) (fun _ q => by cases q) (fun _ q => by cases q) (b_X6_tell l G)
theorem cv_RX6_57 (l : Launch) (G : AG) {fr lo : Nat} (h1 : 0 + 1 ≤ fr) (h2 : 8 + (3 + 11) + 0 ≤ lo) : am_cvOK l G RX6 fr lo (57, 2, F_X6_tell) := ⟨yX6_tell, cX6_tell, 3, (some .int), 0, 0, 6, RX6, M_X6_tell l G, ⟨(am_tb_mem (wd_4 _ (List.mem_of_getElem? (i := 19) rfl))), (am_tb_mem (wd_4 _ (List.mem_of_getElem? (i := 20) rfl))), (am_tb_mem (wd_0 _ (List.mem_of_getElem? (i := 0) rfl))), (am_tb_mem (wd_1 _ (List.mem_of_getElem? (i := 19) rfl))), (am_tb_mem (wd_4 _ (List.mem_of_getElem? (i := 21) rfl)))⟩, ⟨rfl, by decide, by decide, by decide +kernel⟩, Or.inl ⟨by decide, rfl⟩, h1, h2⟩
theorem cv_RX6_61 (l : Launch) (G : AG) {fr lo : Nat} (h1 : 0 + 1 ≤ fr) (h2 : 8 + (1 + 11) + 0 ≤ lo) : am_cvOK l G RX6 fr lo (61, 1, F_X1_hasPlaceForHandle) := ⟨yX1_hasPlaceForHandle, cX1_hasPlaceForHandle, 1, (some .boolean), 0, 0, 1, RX1, M_X1_hasPlaceForHandle l G, ⟨(am_tb_mem (wd_4 _ (List.mem_of_getElem? (i := 22) rfl))), (am_tb_mem (wd_4 _ (List.mem_of_getElem? (i := 23) rfl))), (am_tb_mem (wd_4 _ (List.mem_of_getElem? (i := 24) rfl))), (am_tb_mem (wd_1 _ (List.mem_of_getElem? (i := 20) rfl))), (am_tb_mem (wd_4 _ (List.mem_of_getElem? (i := 25) rfl)))⟩, ⟨rfl, by decide, by decide, by decide +kernel⟩, Or.inl ⟨by decide, rfl⟩, h1, h2⟩
theorem cv_RX6_66 (l : Launch) (G : AG) {fr lo : Nat} (h1 : 0 + 1 ≤ fr) (h2 : 8 + (6 + 11) + 0 ≤ lo) : am_cvOK l G RX6 fr lo (66, 5, F_X1_addHandle) := ⟨yX1_addHandle, cX1_addHandle, 6, (some .int), 0, 0, 1, RX1, M_X1_addHandle l G, ⟨(am_tb_mem (wd_4 _ (List.mem_of_getElem? (i := 27) rfl))), (am_tb_mem (wd_4 _ (List.mem_of_getElem? (i := 28) rfl))), (am_tb_mem (wd_4 _ (List.mem_of_getElem? (i := 29) rfl))), (am_tb_mem (wd_1 _ (List.mem_of_getElem? (i := 20) rfl))), (am_tb_mem (wd_4 _ (List.mem_of_getElem? (i := 30) rfl)))⟩, ⟨rfl, by decide, by decide, by decide +kernel⟩, Or.inl ⟨by decide, rfl⟩, h1, h2⟩
theorem cs_RX6_49 (l : Launch) (G : AG) {fr lo : Nat} (h1 : 0 + 1 ≤ fr) (h2 : 8 + (1 + 11) + 0 ≤ lo) : am_csOK l G RX6 fr lo (49, 1, F_X6_isKind) := Or.inl ⟨yX6_isKind, cX6_isKind, 1, (some .boolean), 0, 0, M_X6_isKind l G, ⟨(am_tb_mem (wd_4 _ (List.mem_of_getElem? (i := 12) rfl))), (am_tb_mem (wd_4 _ (List.mem_of_getElem? (i := 13) rfl))), (am_tb_mem (wd_1 _ (List.mem_of_getElem? (i := 19) rfl))), (am_tb_mem (wd_4 _ (List.mem_of_getElem? (i := 14) rfl)))⟩, ⟨by decide, by decide, by decide +kernel⟩, h1, h2⟩
theorem cs_RX6_53 (l : Launch) (G : AG) {fr lo : Nat} (h1 : 0 + 1 ≤ fr) (h2 : 8 + (1 + 11) + 0 ≤ lo) : am_csOK l G RX6 fr lo (53, 1, F_X6_isRoom) := Or.inl ⟨yX6_isRoom, cX6_isRoom, 1, (some .boolean), 0, 0, M_X6_isRoom l G, ⟨(am_tb_mem (wd_4 _ (List.mem_of_getElem? (i := 15) rfl))), (am_tb_mem (wd_4 _ (List.mem_of_getElem? (i := 16) rfl))), (am_tb_mem (wd_1 _ (List.mem_of_getElem? (i := 19) rfl))), (am_tb_mem (wd_4 _ (List.mem_of_getElem? (i := 17) rfl)))⟩, ⟨by decide, by decide, by decide +kernel⟩, h1, h2⟩
def C_X6_handle : List AC := [(0, .iload_n 1, 1, []), (1, .invokestatic 49, 4, []), (4, .ifCond .eq 17, 7, [21]), (7, .iload_n 2, 8, []), (8, .invokestatic 53, 11, []), (11, .ifCond .eq 10, 14, [21]), (14, .iload_n 3, 15, []), (15, .invokestatic 53, 18, []), (18, .ifCond .ne 10, 21, [28]), (21, .aload_n 0, 22, []), (22, .ldc 56, 24, []), (24, .invokevirtual 57, 27, []), (27, .ireturn, 28, []), (28, .aload_n 0, 29, []), (29, .getfield 10, 32, []), (32, .invokevirtual 61, 35, []), (35, .ifCond .ne 10, 38, [45]), (38, .aload_n 0, 39, []), (39, .ldc 65, 41, []), (41, .invokevirtual 57, 44, []), (44, .ireturn, 45, []), (45, .aload_n 0, 46, []), (46, .getfield 10, 49, []), (49, .iload_n 1, 50, []), (50, .iload_n 2, 51, []), (51, .iload_n 3, 52, []), (52, .iconst 0, 53, []), (53, .invokevirtual 66, 56, []), (56, .ireturn, 57, [])]
theorem ok_X6_handle : ∀ x ∈ C_X6_handle, am_ok cX6_handle 4 x = true := by decide +kernel
noncomputable def P_X6_handle : AP := (PF_RX6, PK_RX6, PS_RX6, [(57, 2, F_X6_tell), (61, 1, F_X1_hasPlaceForHandle), (66, 5, F_X1_addHandle)], [(49, 1, F_X6_isKind), (53, 1, F_X6_isRoom)], [])
noncomputable def g_X6_handle_21  (h : HP) : Option (Int32 × HP) := (f_X6_tell ((-1000000001)) h).bind (fun q_1 => some (q_1.1, q_1.2))
def pk_X6_handle_21 (k : HP → Option (Int32 × HP)) : List AV → List AV → HP → Option (Int32 × HP) := fun L st h => match L, st with
  | [.inr (.inr (.inl (6, 0))), .inl _, .inl _, .inl _], [] => k h
  | _, _ => none
theorem pk_X6_handle_21_ok {Wp : List AV → List AV → HP → Prop} {r : (Int32 × HP)} {k : HP → Option (Int32 × HP)} (hk : ∀ (w1 : Int32) (w2 : Int32) (w3 : Int32) (h : HP), k h = some r → Wp [.inr (.inr (.inl (6, 0))), .inl w1, .inl w2, .inl w3] [] h) : ∀ L st h, pk_X6_handle_21 k L st h = some r → Wp L st h := by
  intro L st h q
  unfold pk_X6_handle_21 at q
  split at q
  · exact hk _ _ _ _ q
  · cases q
noncomputable def f_X6_handle (a1 : Int32) (a2 : Int32) (a3 : Int32) (h : HP) : Option (Int32 × HP) := (f_X6_isKind a1 h).bind (fun q_1 => if q_1.1 = (0 : Int32) then (g_X6_handle_21 q_1.2) else ((f_X6_isRoom a2 q_1.2).bind (fun q_2 => if q_2.1 = (0 : Int32) then (g_X6_handle_21 q_2.2) else ((f_X6_isRoom a3 q_2.2).bind (fun q_3 => if q_3.1 = (0 : Int32) then (g_X6_handle_21 q_3.2) else ((f_X1_hasPlaceForHandle 0 q_3.2).bind (fun q_4 => if q_4.1 = (0 : Int32) then ((f_X6_tell ((-1000000002)) q_4.2).bind (fun q_6 => some (q_6.1, q_6.2))) else ((f_X1_addHandle 0 a1 a2 a3 0 q_4.2).bind (fun q_5 => some (q_5.1, q_5.2))))))))))
noncomputable def fl_X6_handle : List AV → HP → Option (Int32 × HP) := fun as h => match as with
  | [.inr (.inr (.inl (6, 0))), .inl a1, .inl a2, .inl a3] => f_X6_handle a1 a2 a3 h
  | _ => none
noncomputable def F_X6_handle : AF := .inl fl_X6_handle
set_option maxRecDepth 20000 in
theorem w_X6_handle_21 {p : Program} {l : Launch} {e : Env} {R : Room} {s : State} {m : MethodId} {args : Array Value} {below : List Frame} {meth : Method} {c : Code} {cells slots : Nat} {G : AG} {Q : (Int32 × HP) → State → Prop} (CX : am_X p l e R s m args below meth c cells slots G 4 cX6_handle RX6 am_tb P_X6_handle am_rI Q) {r : (Int32 × HP)} : ∀ (w1 : Int32) (w2 : Int32) (w3 : Int32) (h : HP), g_X6_handle_21 h = some r → am_W p l e R s m args below meth c cells slots G 4 (Q r) 21 [.inr (.inr (.inl (6, 0))), .inl w1, .inl w2, .inl w3] [] h := by
  intro w1 w2 w3 h q
  exact am_run_ok CX ok_X6_handle (K := []) (am_K0 (Wp := am_W p l e R s m args below meth c cells slots G 4 (Q r))) 7 21 _ _ _ q
set_option maxRecDepth 20000 in
theorem b_X6_handle (l : Launch) (G : AG) : am_B l G 4 cX6_handle RX6 am_tb P_X6_handle am_rI fl_X6_handle := by
  intro p e R s m args below meth c cells slots Q CX as h r q
  unfold fl_X6_handle at q
  split at q
  · exact am_run_ok CX ok_X6_handle (K := [(21, pk_X6_handle_21 (g_X6_handle_21))]) (am_K1 (Wp := am_W p l e R s m args below meth c cells slots G 4 (Q r)) (pk_X6_handle_21_ok (Wp := am_W p l e R s m args below meth c cells slots G 4 (Q r) 21) (w_X6_handle_21 CX)) am_K0) 24 0 _ _ _ q
  · cases q
theorem s_X6_handle : ∀ as h x, fl_X6_handle as h = some x → (∀ k, (some 6 : Option Nat) = some k → ∃ (j : Nat) (as' : List AV), as = .inr (.inr (.inl (k, j))) :: as') ∧ (am_l0 as).length ≤ 4 := by
  intro as h x q
  unfold fl_X6_handle at q
  split at q
  · exact ⟨fun k e => by cases e; exact ⟨_, _, rfl⟩, Nat.le_of_ble_eq_true rfl⟩
  · cases q
theorem M_X6_handle (l : Launch) (G : AG) : am_M l G yX6_handle cX6_handle 4 (some .int) 1 25 (some 6) F_X6_handle := am_M_of (f := fl_X6_handle) (toR := fun x => (some (.inl x.1), x.2)) (P := P_X6_handle) (Rr := am_rI) (own := RX6) (by decide) rfl (fun _ _ => rfl) s_X6_handle am_wrI am_rkI pf_RX6 pk_RX6 ps_RX6 (List.forall_mem_cons.mpr ⟨cv_RX6_57 l G (by decide) (by decide), (List.forall_mem_cons.mpr ⟨cv_RX6_61 l G (by decide) (by decide), (List.forall_mem_cons.mpr ⟨cv_RX6_66 l G (by decide) (by decide), (fun _ q => by cases q)⟩)⟩)⟩) (List.forall_mem_cons.mpr ⟨cs_RX6_49 l G (by decide) (by decide), (List.forall_mem_cons.mpr ⟨cs_RX6_53 l G (by decide) (by decide), (fun _ q => by cases q)⟩)⟩) (fun _ q => by cases q) (b_X6_handle l G)
theorem cv_RX6_70 (l : Launch) (G : AG) {fr lo : Nat} (h1 : 0 + 1 ≤ fr) (h2 : 8 + (2 + 11) + 0 ≤ lo) : am_cvOK l G RX6 fr lo (70, 2, F_X1_hasHandle) := ⟨yX1_hasHandle, cX1_hasHandle, 2, (some .boolean), 0, 0, 1, RX1, M_X1_hasHandle l G, ⟨(am_tb_mem (wd_4 _ (List.mem_of_getElem? (i := 35) rfl))), (am_tb_mem (wd_4 _ (List.mem_of_getElem? (i := 36) rfl))), (am_tb_mem (wd_4 _ (List.mem_of_getElem? (i := 37) rfl))), (am_tb_mem (wd_1 _ (List.mem_of_getElem? (i := 20) rfl))), (am_tb_mem (wd_4 _ (List.mem_of_getElem? (i := 38) rfl)))⟩, ⟨rfl, by decide, by decide, by decide +kernel⟩, Or.inl ⟨by decide, rfl⟩, h1, h2⟩
theorem cv_RX6_101 (l : Launch) (G : AG) {fr lo : Nat} (h1 : 0 + 1 ≤ fr) (h2 : 8 + (2 + 11) + 0 ≤ lo) : am_cvOK l G RX6 fr lo (101, 2, F_X0_isLate) := ⟨yX0_isLate, cX0_isLate, 2, (some .boolean), 0, 0, 0, RX0, M_X0_isLate l G, ⟨(am_tb_mem (wd_4 _ (List.mem_of_getElem? (i := 39) rfl))), (am_tb_mem (wd_5 _ (List.mem_of_getElem? (i := 0) rfl))), (am_tb_mem (wd_5 _ (List.mem_of_getElem? (i := 1) rfl))), (am_tb_mem (wd_1 _ (List.mem_of_getElem? (i := 21) rfl))), (am_tb_mem (wd_5 _ (List.mem_of_getElem? (i := 2) rfl)))⟩, ⟨rfl, by decide, by decide, by decide +kernel⟩, Or.inl ⟨by decide, rfl⟩, h1, h2⟩
theorem cv_RX6_104 (l : Launch) (G : AG) {fr lo : Nat} (h1 : 1 + 1 ≤ fr) (h2 : 8 + (3 + 11) + 21 ≤ lo) : am_cvOK l G RX6 fr lo (104, 2, F_X0_end) := ⟨yX0_end, cX0_end, 3, (some .int), 1, 21, 0, RX0, M_X0_end l G, ⟨(am_tb_mem (wd_5 _ (List.mem_of_getElem? (i := 3) rfl))), (am_tb_mem (wd_5 _ (List.mem_of_getElem? (i := 4) rfl))), (am_tb_mem (wd_5 _ (List.mem_of_getElem? (i := 5) rfl))), (am_tb_mem (wd_1 _ (List.mem_of_getElem? (i := 21) rfl))), (am_tb_mem (wd_5 _ (List.mem_of_getElem? (i := 6) rfl)))⟩, ⟨rfl, by decide, by decide, by decide +kernel⟩, Or.inl ⟨by decide, rfl⟩, h1, h2⟩
theorem cv_RX6_110 (l : Launch) (G : AG) {fr lo : Nat} (h1 : 0 + 1 ≤ fr) (h2 : 8 + (2 + 11) + 0 ≤ lo) : am_cvOK l G RX6 fr lo (110, 2, F_X0_wears) := ⟨yX0_wears, cX0_wears, 2, (some .int), 0, 0, 0, RX0, M_X0_wears l G, ⟨(am_tb_mem (wd_5 _ (List.mem_of_getElem? (i := 8) rfl))), (am_tb_mem (wd_5 _ (List.mem_of_getElem? (i := 9) rfl))), (am_tb_mem (wd_5 _ (List.mem_of_getElem? (i := 10) rfl))), (am_tb_mem (wd_1 _ (List.mem_of_getElem? (i := 21) rfl))), (am_tb_mem (wd_5 _ (List.mem_of_getElem? (i := 11) rfl)))⟩, ⟨rfl, by decide, by decide, by decide +kernel⟩, Or.inl ⟨by decide, rfl⟩, h1, h2⟩
def C_X6_of : List AC := [(0, .aload_n 0, 1, []), (1, .getfield 10, 4, []), (4, .iload_n 1, 5, []), (5, .invokevirtual 70, 8, []), (8, .ifCond .ne 10, 11, [18]), (11, .aload_n 0, 12, []), (12, .ldc 56, 14, []), (14, .invokevirtual 57, 17, []), (17, .ireturn, 18, []), (18, .aload_n 0, 19, []), (19, .getfield 10, 22, []), (22, .getfield 73, 25, []), (25, .iload_n 1, 26, []), (26, .aaload, 27, []), (27, .astore_n 3, 28, []), (28, .iload_n 2, 29, []), (29, .tableswitch 125 0 8 #[51, 56, 61, 66, 71, 76, 81, 101, 113], 80, [154, 80, 85, 90, 95, 100, 105, 110, 130, 142]), (80, .aload_n 3, 81, []), (81, .getfield 77, 84, []), (84, .ireturn, 85, []), (85, .aload_n 3, 86, []), (86, .getfield 83, 89, []), (89, .ireturn, 90, []), (90, .aload_n 3, 91, []), (91, .getfield 86, 94, []), (94, .ireturn, 95, []), (95, .aload_n 3, 96, []), (96, .getfield 89, 99, []), (99, .ireturn, 100, []), (100, .aload_n 3, 101, []), (101, .getfield 92, 104, []), (104, .ireturn, 105, []), (105, .aload_n 3, 106, []), (106, .getfield 95, 109, []), (109, .ireturn, 110, []), (110, .aload_n 3, 111, []), (111, .aload_n 0, 112, []), (112, .getfield 10, 115, []), (115, .getfield 98, 118, []), (118, .invokevirtual 101, 121, []), (121, .ifCond .eq 7, 124, [128]), (124, .iconst 1, 125, []), (125, .goto 4, 128, [129]), (128, .iconst 0, 129, []), (129, .ireturn, 130, []), (130, .aload_n 3, 131, []), (131, .aload_n 0, 132, []), (132, .getfield 10, 135, []), (135, .getfield 98, 138, []), (138, .invokevirtual 104, 141, []), (141, .ireturn, 142, []), (142, .aload_n 3, 143, []), (143, .aload_n 0, 144, []), (144, .getfield 10, 147, []), (147, .getfield 107, 150, []), (150, .invokevirtual 110, 153, []), (153, .ireturn, 154, []), (154, .aload_n 0, 155, []), (155, .ldc 56, 157, []), (157, .invokevirtual 57, 160, []), (160, .ireturn, 161, [])]
theorem ok_X6_of : ∀ x ∈ C_X6_of, am_ok cX6_of 4 x = true := by decide +kernel
noncomputable def P_X6_of : AP := (PF_RX6, PK_RX6, PS_RX6, [(57, 2, F_X6_tell), (70, 2, F_X1_hasHandle), (101, 2, F_X0_isLate), (104, 2, F_X0_end), (110, 2, F_X0_wears)], [], [])
noncomputable def f_X6_of (a1 : Int32) (a2 : Int32) (h : HP) : Option (Int32 × HP) := (f_X1_hasHandle 0 a1 h).bind (fun q_1 => if q_1.1 = (0 : Int32) then ((f_X6_tell ((-1000000001)) q_1.2).bind (fun q_7 => some (q_7.1, q_7.2))) else ((am_ix a1 8).bind (fun k_2 => if a2 = 0 then (some (h_rI q_1.2 0 (8 * 0 + k_2) 0, q_1.2)) else (if a2 = 1 then (some (h_rI q_1.2 0 (8 * 0 + k_2) 1, q_1.2)) else (if a2 = 2 then (some (h_rI q_1.2 0 (8 * 0 + k_2) 2, q_1.2)) else (if a2 = 3 then (some (h_rI q_1.2 0 (8 * 0 + k_2) 3, q_1.2)) else (if a2 = 4 then (some (h_rI q_1.2 0 (8 * 0 + k_2) 4, q_1.2)) else (if a2 = 5 then (some (h_rI q_1.2 0 (8 * 0 + k_2) 5, q_1.2)) else (if a2 = 6 then ((f_X0_isLate (8 * 0 + k_2) (h_rI q_1.2 1 0 1) q_1.2).bind (fun q_3 => if q_3.1 = (0 : Int32) then (some (0, q_3.2)) else (some (1, q_3.2)))) else (if a2 = 7 then ((f_X0_end (8 * 0 + k_2) (h_rI q_1.2 1 0 1) q_1.2).bind (fun q_4 => some (q_4.1, q_4.2))) else (if a2 = 8 then ((f_X0_wears (8 * 0 + k_2) (h_rI q_1.2 1 0 0) q_1.2).bind (fun q_5 => some (q_5.1, q_5.2))) else ((f_X6_tell ((-1000000001)) q_1.2).bind (fun q_6 => some (q_6.1, q_6.2))))))))))))))
noncomputable def fl_X6_of : List AV → HP → Option (Int32 × HP) := fun as h => match as with
  | [.inr (.inr (.inl (6, 0))), .inl a1, .inl a2] => f_X6_of a1 a2 h
  | _ => none
noncomputable def F_X6_of : AF := .inl fl_X6_of
set_option maxRecDepth 20000 in
theorem b_X6_of (l : Launch) (G : AG) : am_B l G 4 cX6_of RX6 am_tb P_X6_of am_rI fl_X6_of := by
  intro p e R s m args below meth c cells slots Q CX as h r q
  unfold fl_X6_of at q
  split at q
  · exact am_run_ok CX ok_X6_of (K := []) (am_K0 (Wp := am_W p l e R s m args below meth c cells slots G 4 (Q r))) 25 0 _ _ _ q
  · cases q
theorem s_X6_of : ∀ as h x, fl_X6_of as h = some x → (∀ k, (some 6 : Option Nat) = some k → ∃ (j : Nat) (as' : List AV), as = .inr (.inr (.inl (k, j))) :: as') ∧ (am_l0 as).length ≤ 4 := by
  intro as h x q
  unfold fl_X6_of at q
  split at q
  · exact ⟨fun k e => by cases e; exact ⟨_, _, rfl⟩, Nat.le_of_ble_eq_true rfl⟩
  · cases q
theorem M_X6_of (l : Launch) (G : AG) : am_M l G yX6_of cX6_of 4 (some .int) 2 43 (some 6) F_X6_of := am_M_of (f := fl_X6_of) (toR := fun x => (some (.inl x.1), x.2)) (P := P_X6_of) (Rr := am_rI) (own := RX6) (by decide) rfl (fun _ _ => rfl) s_X6_of am_wrI am_rkI pf_RX6 pk_RX6 ps_RX6 (List.forall_mem_cons.mpr ⟨cv_RX6_57 l G (by decide) (by decide), (List.forall_mem_cons.mpr ⟨cv_RX6_70 l G (by decide) (by decide), (List.forall_mem_cons.mpr ⟨cv_RX6_101 l G (by decide) (by decide), (List.forall_mem_cons.mpr ⟨cv_RX6_104 l G (by decide) (by decide), (List.forall_mem_cons.mpr ⟨cv_RX6_110 l G (by decide) (by decide), (fun _ q => by cases q)⟩)⟩)⟩)⟩)⟩) (fun _ q => by cases q) (fun _ q => by cases q) (b_X6_of l G)
def C_X6_isUpTo : List AC := [(0, .iload_n 0, 1, []), (1, .ifCond .lt 12, 4, [13]), (4, .iload_n 0, 5, []), (5, .iload_n 1, 6, []), (6, .if_icmp .gt 7, 9, [13]), (9, .iconst 1, 10, []), (10, .goto 4, 13, [14]), (13, .iconst 0, 14, []), (14, .ireturn, 15, [])]
theorem ok_X6_isUpTo : ∀ x ∈ C_X6_isUpTo, am_ok cX6_isUpTo 2 x = true := by decide +kernel
noncomputable def P_X6_isUpTo : AP := (PF_RX6, PK_RX6, PS_RX6, [], [], [])
noncomputable def f_X6_isUpTo (a1 : Int32) (a2 : Int32) (h : HP) : Option (Int32 × HP) := if a1 < (0 : Int32) then (some (0, h)) else (if a2 < a1 then (some (0, h)) else (some (1, h)))
noncomputable def fl_X6_isUpTo : List AV → HP → Option (Int32 × HP) := fun as h => match as with
  | [.inl a1, .inl a2] => f_X6_isUpTo a1 a2 h
  | _ => none
noncomputable def F_X6_isUpTo : AF := .inl fl_X6_isUpTo
set_option maxRecDepth 20000 in
theorem b_X6_isUpTo (l : Launch) (G : AG) : am_B l G 2 cX6_isUpTo RX6 am_tb P_X6_isUpTo am_rZ fl_X6_isUpTo := by
  intro p e R s m args below meth c cells slots Q CX as h r q
  unfold fl_X6_isUpTo at q
  split at q
  · exact am_run_ok CX ok_X6_isUpTo (K := []) (am_K0 (Wp := am_W p l e R s m args below meth c cells slots G 2 (Q r))) 11 0 _ _ _ q
  · cases q
theorem s_X6_isUpTo : ∀ as h x, fl_X6_isUpTo as h = some x → (∀ k, (none : Option Nat) = some k → ∃ (j : Nat) (as' : List AV), as = .inr (.inr (.inl (k, j))) :: as') ∧ (am_l0 as).length ≤ 2 := by
  intro as h x q
  unfold fl_X6_isUpTo at q
  split at q
  · exact ⟨fun k e => (by cases e), Nat.le_of_ble_eq_true rfl⟩
  · cases q
theorem M_X6_isUpTo (l : Launch) (G : AG) : am_M l G yX6_isUpTo cX6_isUpTo 2 (some .boolean) 0 0 none F_X6_isUpTo := am_M_of (f := fl_X6_isUpTo) (toR := fun x => (some (.inl x.1), x.2)) (P := P_X6_isUpTo) (Rr := am_rZ) (own := RX6) (by decide) rfl (fun _ _ => rfl) s_X6_isUpTo am_wrI am_rkZ pf_RX6 pk_RX6 ps_RX6 (fun _ q => by cases q) (fun _ q => by cases q) (fun _ q => by cases q) (b_X6_isUpTo l G)
theorem cs_RX6_113 (l : Launch) (G : AG) {fr lo : Nat} (h1 : 0 + 1 ≤ fr) (h2 : 8 + (2 + 11) + 0 ≤ lo) : am_csOK l G RX6 fr lo (113, 2, F_X6_isUpTo) := Or.inl ⟨yX6_isUpTo, cX6_isUpTo, 2, (some .boolean), 0, 0, M_X6_isUpTo l G, ⟨(am_tb_mem (wd_5 _ (List.mem_of_getElem? (i := 16) rfl))), (am_tb_mem (wd_5 _ (List.mem_of_getElem? (i := 17) rfl))), (am_tb_mem (wd_1 _ (List.mem_of_getElem? (i := 19) rfl))), (am_tb_mem (wd_5 _ (List.mem_of_getElem? (i := 18) rfl)))⟩, ⟨by decide, by decide, by decide +kernel⟩, h1, h2⟩
def C_X6_set : List AC := [(0, .aload_n 0, 1, []), (1, .getfield 10, 4, []), (4, .iload_n 1, 5, []), (5, .invokevirtual 70, 8, []), (8, .ifCond .eq 13, 11, [21]), (11, .iload_n 2, 12, []), (12, .iconst 1, 13, []), (13, .if_icmp .lt 8, 16, [21]), (16, .iload_n 2, 17, []), (17, .iconst 3, 18, []), (18, .if_icmp .le 10, 21, [28]), (21, .aload_n 0, 22, []), (22, .ldc 56, 24, []), (24, .invokevirtual 57, 27, []), (27, .ireturn, 28, []), (28, .iload_n 2, 29, []), (29, .iconst 3, 30, []), (30, .if_icmp .ne 15, 33, [45]), (33, .iload_n 3, 34, []), (34, .bipush 99, 36, []), (36, .invokestatic 113, 39, []), (39, .ifCond .ne 20, 42, [59]), (42, .goto 10, 45, [52]), (45, .iload_n 3, 46, []), (46, .invokestatic 53, 49, []), (49, .ifCond .ne 10, 52, [59]), (52, .aload_n 0, 53, []), (53, .ldc 56, 55, []), (55, .invokevirtual 57, 58, []), (58, .ireturn, 59, []), (59, .aload_n 0, 60, []), (60, .getfield 10, 63, []), (63, .getfield 73, 66, []), (66, .iload_n 1, 67, []), (67, .aaload, 68, []), (68, .astore 4, 70, []), (70, .iload_n 2, 71, []), (71, .iconst 1, 72, []), (72, .if_icmp .ne 19, 75, [91]), (75, .aload 4, 77, []), (77, .getfield 83, 80, []), (80, .istore 5, 82, []), (82, .aload 4, 84, []), (84, .iload_n 3, 85, []), (85, .putfield 83, 88, []), (88, .goto 37, 91, [125]), (91, .iload_n 2, 92, []), (92, .iconst 2, 93, []), (93, .if_icmp .ne 19, 96, [112]), (96, .aload 4, 98, []), (98, .getfield 86, 101, []), (101, .istore 5, 103, []), (103, .aload 4, 105, []), (105, .iload_n 3, 106, []), (106, .putfield 86, 109, []), (109, .goto 16, 112, [125]), (112, .aload 4, 114, []), (114, .getfield 89, 117, []), (117, .istore 5, 119, []), (119, .aload 4, 121, []), (121, .iload_n 3, 122, []), (122, .putfield 89, 125, []), (125, .iload 5, 127, []), (127, .ireturn, 128, [])]
theorem ok_X6_set : ∀ x ∈ C_X6_set, am_ok cX6_set 6 x = true := by decide +kernel
noncomputable def P_X6_set : AP := (PF_RX6, PK_RX6, PS_RX6, [(57, 2, F_X6_tell), (70, 2, F_X1_hasHandle)], [(53, 1, F_X6_isRoom), (113, 2, F_X6_isUpTo)], [])
noncomputable def g_X6_set_59 (a1 : Int32) (a2 : Int32) (a3 : Int32) (h : HP) : Option (Int32 × HP) := (am_ix a1 8).bind (fun k_1 => if a2 = (1 : Int32) then (some (h_rI h 0 (8 * 0 + k_1) 1, h_wI h 0 (8 * 0 + k_1) 1 a3)) else (if a2 = (2 : Int32) then (some (h_rI h 0 (8 * 0 + k_1) 2, h_wI h 0 (8 * 0 + k_1) 2 a3)) else (some (h_rI h 0 (8 * 0 + k_1) 3, h_wI h 0 (8 * 0 + k_1) 3 a3))))
def pk_X6_set_59 (k : Int32 → Int32 → Int32 → HP → Option (Int32 × HP)) : List AV → List AV → HP → Option (Int32 × HP) := fun L st h => match L, st with
  | [.inr (.inr (.inl (6, 0))), .inl a1, .inl a2, .inl a3, .inr (.inr (.inr ())), .inr (.inr (.inr ()))], [] => k a1 a2 a3 h
  | _, _ => none
theorem pk_X6_set_59_ok {Wp : List AV → List AV → HP → Prop} {r : (Int32 × HP)} {k : Int32 → Int32 → Int32 → HP → Option (Int32 × HP)} (hk : ∀ (a1 : Int32) (a2 : Int32) (a3 : Int32) (h : HP), k a1 a2 a3 h = some r → Wp [.inr (.inr (.inl (6, 0))), .inl a1, .inl a2, .inl a3, .inr (.inr (.inr ())), .inr (.inr (.inr ()))] [] h) : ∀ L st h, pk_X6_set_59 k L st h = some r → Wp L st h := by
  intro L st h q
  unfold pk_X6_set_59 at q
  split at q
  · exact hk _ _ _ _ q
  · cases q
noncomputable def g_X6_set_52  (h : HP) : Option (Int32 × HP) := (f_X6_tell ((-1000000001)) h).bind (fun q_1 => some (q_1.1, q_1.2))
def pk_X6_set_52 (k : HP → Option (Int32 × HP)) : List AV → List AV → HP → Option (Int32 × HP) := fun L st h => match L, st with
  | [.inr (.inr (.inl (6, 0))), .inl _, .inl _, .inl _, .inr (.inr (.inr ())), .inr (.inr (.inr ()))], [] => k h
  | _, _ => none
theorem pk_X6_set_52_ok {Wp : List AV → List AV → HP → Prop} {r : (Int32 × HP)} {k : HP → Option (Int32 × HP)} (hk : ∀ (w1 : Int32) (w2 : Int32) (w3 : Int32) (h : HP), k h = some r → Wp [.inr (.inr (.inl (6, 0))), .inl w1, .inl w2, .inl w3, .inr (.inr (.inr ())), .inr (.inr (.inr ()))] [] h) : ∀ L st h, pk_X6_set_52 k L st h = some r → Wp L st h := by
  intro L st h q
  unfold pk_X6_set_52 at q
  split at q
  · exact hk _ _ _ _ q
  · cases q
noncomputable def g_X6_set_21  (h : HP) : Option (Int32 × HP) := (f_X6_tell ((-1000000001)) h).bind (fun q_1 => some (q_1.1, q_1.2))
def pk_X6_set_21 (k : HP → Option (Int32 × HP)) : List AV → List AV → HP → Option (Int32 × HP) := fun L st h => match L, st with
  | [.inr (.inr (.inl (6, 0))), .inl _, .inl _, .inl _, .inr (.inr (.inr ())), .inr (.inr (.inr ()))], [] => k h
  | _, _ => none
theorem pk_X6_set_21_ok {Wp : List AV → List AV → HP → Prop} {r : (Int32 × HP)} {k : HP → Option (Int32 × HP)} (hk : ∀ (w1 : Int32) (w2 : Int32) (w3 : Int32) (h : HP), k h = some r → Wp [.inr (.inr (.inl (6, 0))), .inl w1, .inl w2, .inl w3, .inr (.inr (.inr ())), .inr (.inr (.inr ()))] [] h) : ∀ L st h, pk_X6_set_21 k L st h = some r → Wp L st h := by
  intro L st h q
  unfold pk_X6_set_21 at q
  split at q
  · exact hk _ _ _ _ q
  · cases q
noncomputable def f_X6_set (a1 : Int32) (a2 : Int32) (a3 : Int32) (h : HP) : Option (Int32 × HP) := (f_X1_hasHandle 0 a1 h).bind (fun q_1 => if q_1.1 = (0 : Int32) then (g_X6_set_21 q_1.2) else (if a2 < (1 : Int32) then (g_X6_set_21 q_1.2) else (if a2 ≤ (3 : Int32) then (if a2 = (3 : Int32) then ((f_X6_isUpTo a3 99 q_1.2).bind (fun q_3 => if q_3.1 = (0 : Int32) then (g_X6_set_52 q_3.2) else (g_X6_set_59 a1 a2 a3 q_3.2))) else ((f_X6_isRoom a3 q_1.2).bind (fun q_2 => if q_2.1 = (0 : Int32) then (g_X6_set_52 q_2.2) else (g_X6_set_59 a1 a2 a3 q_2.2)))) else (g_X6_set_21 q_1.2))))
noncomputable def fl_X6_set : List AV → HP → Option (Int32 × HP) := fun as h => match as with
  | [.inr (.inr (.inl (6, 0))), .inl a1, .inl a2, .inl a3] => f_X6_set a1 a2 a3 h
  | _ => none
noncomputable def F_X6_set : AF := .inl fl_X6_set
set_option maxRecDepth 20000 in
theorem w_X6_set_59 {p : Program} {l : Launch} {e : Env} {R : Room} {s : State} {m : MethodId} {args : Array Value} {below : List Frame} {meth : Method} {c : Code} {cells slots : Nat} {G : AG} {Q : (Int32 × HP) → State → Prop} (CX : am_X p l e R s m args below meth c cells slots G 6 cX6_set RX6 am_tb P_X6_set am_rI Q) {r : (Int32 × HP)} : ∀ (a1 : Int32) (a2 : Int32) (a3 : Int32) (h : HP), g_X6_set_59 a1 a2 a3 h = some r → am_W p l e R s m args below meth c cells slots G 6 (Q r) 59 [.inr (.inr (.inl (6, 0))), .inl a1, .inl a2, .inl a3, .inr (.inr (.inr ())), .inr (.inr (.inr ()))] [] h := by
  intro a1 a2 a3 h q
  exact am_run_ok CX ok_X6_set (K := []) (am_K0 (Wp := am_W p l e R s m args below meth c cells slots G 6 (Q r))) 24 59 _ _ _ q
set_option maxRecDepth 20000 in
theorem w_X6_set_52 {p : Program} {l : Launch} {e : Env} {R : Room} {s : State} {m : MethodId} {args : Array Value} {below : List Frame} {meth : Method} {c : Code} {cells slots : Nat} {G : AG} {Q : (Int32 × HP) → State → Prop} (CX : am_X p l e R s m args below meth c cells slots G 6 cX6_set RX6 am_tb P_X6_set am_rI Q) {r : (Int32 × HP)} : ∀ (w1 : Int32) (w2 : Int32) (w3 : Int32) (h : HP), g_X6_set_52 h = some r → am_W p l e R s m args below meth c cells slots G 6 (Q r) 52 [.inr (.inr (.inl (6, 0))), .inl w1, .inl w2, .inl w3, .inr (.inr (.inr ())), .inr (.inr (.inr ()))] [] h := by
  intro w1 w2 w3 h q
  exact am_run_ok CX ok_X6_set (K := []) (am_K0 (Wp := am_W p l e R s m args below meth c cells slots G 6 (Q r))) 7 52 _ _ _ q
set_option maxRecDepth 20000 in
theorem w_X6_set_21 {p : Program} {l : Launch} {e : Env} {R : Room} {s : State} {m : MethodId} {args : Array Value} {below : List Frame} {meth : Method} {c : Code} {cells slots : Nat} {G : AG} {Q : (Int32 × HP) → State → Prop} (CX : am_X p l e R s m args below meth c cells slots G 6 cX6_set RX6 am_tb P_X6_set am_rI Q) {r : (Int32 × HP)} : ∀ (w1 : Int32) (w2 : Int32) (w3 : Int32) (h : HP), g_X6_set_21 h = some r → am_W p l e R s m args below meth c cells slots G 6 (Q r) 21 [.inr (.inr (.inl (6, 0))), .inl w1, .inl w2, .inl w3, .inr (.inr (.inr ())), .inr (.inr (.inr ()))] [] h := by
  intro w1 w2 w3 h q
  exact am_run_ok CX ok_X6_set (K := []) (am_K0 (Wp := am_W p l e R s m args below meth c cells slots G 6 (Q r))) 7 21 _ _ _ q
set_option maxRecDepth 20000 in
theorem b_X6_set (l : Launch) (G : AG) : am_B l G 6 cX6_set RX6 am_tb P_X6_set am_rI fl_X6_set := by
  intro p e R s m args below meth c cells slots Q CX as h r q
  unfold fl_X6_set at q
  split at q
  · exact am_run_ok CX ok_X6_set (K := [(21, pk_X6_set_21 (g_X6_set_21)), (59, pk_X6_set_59 (g_X6_set_59)), (52, pk_X6_set_52 (g_X6_set_52))]) (am_K1 (Wp := am_W p l e R s m args below meth c cells slots G 6 (Q r)) (pk_X6_set_21_ok (Wp := am_W p l e R s m args below meth c cells slots G 6 (Q r) 21) (w_X6_set_21 CX)) (am_K1 (Wp := am_W p l e R s m args below meth c cells slots G 6 (Q r)) (pk_X6_set_59_ok (Wp := am_W p l e R s m args below meth c cells slots G 6 (Q r) 59) (w_X6_set_59 CX)) (am_K1 (Wp := am_W p l e R s m args below meth c cells slots G 6 (Q r)) (pk_X6_set_52_ok (Wp := am_W p l e R s m args below meth c cells slots G 6 (Q r) 52) (w_X6_set_52 CX)) am_K0))) 22 0 _ _ _ q
  · cases q
theorem s_X6_set : ∀ as h x, fl_X6_set as h = some x → (∀ k, (some 6 : Option Nat) = some k → ∃ (j : Nat) (as' : List AV), as = .inr (.inr (.inl (k, j))) :: as') ∧ (am_l0 as).length ≤ 6 := by
  intro as h x q
  unfold fl_X6_set at q
  split at q
  · exact ⟨fun k e => by cases e; exact ⟨_, _, rfl⟩, Nat.le_of_ble_eq_true rfl⟩
  · cases q
theorem M_X6_set (l : Launch) (G : AG) : am_M l G yX6_set cX6_set 6 (some .int) 1 22 (some 6) F_X6_set := am_M_of (f := fl_X6_set) (toR := fun x => (some (.inl x.1), x.2)) (P := P_X6_set) (Rr := am_rI) (own := RX6) (by decide) rfl (fun _ _ => rfl) s_X6_set am_wrI am_rkI pf_RX6 pk_RX6 ps_RX6 (List.forall_mem_cons.mpr ⟨cv_RX6_57 l G (by decide) (by decide), (List.forall_mem_cons.mpr ⟨cv_RX6_70 l G (by decide) (by decide), (fun _ q => by cases q)⟩)⟩) (List.forall_mem_cons.mpr ⟨cs_RX6_53 l G (by decide) (by decide), (List.forall_mem_cons.mpr ⟨cs_RX6_113 l G (by decide) (by decide), (fun _ q => by cases q)⟩)⟩) (fun _ q => by cases q) (b_X6_set l G)
def C_X6_turn : List AC := [(0, .aload_n 0, 1, []), (1, .getfield 10, 4, []), (4, .iload_n 1, 5, []), (5, .invokevirtual 70, 8, []), (8, .ifCond .eq 10, 11, [18]), (11, .iload_n 2, 12, []), (12, .invokestatic 49, 15, []), (15, .ifCond .ne 10, 18, [25]), (18, .aload_n 0, 19, []), (19, .ldc 56, 21, []), (21, .invokevirtual 57, 24, []), (24, .ireturn, 25, []), (25, .aload_n 0, 26, []), (26, .getfield 10, 29, []), (29, .getfield 73, 32, []), (32, .iload_n 1, 33, []), (33, .aaload, 34, []), (34, .astore_n 3, 35, []), (35, .aload_n 3, 36, []), (36, .getfield 77, 39, []), (39, .istore 4, 41, []), (41, .aload_n 3, 42, []), (42, .iload_n 2, 43, []), (43, .putfield 77, 46, []), (46, .iload 4, 48, []), (48, .ireturn, 49, [])]
theorem ok_X6_turn : ∀ x ∈ C_X6_turn, am_ok cX6_turn 5 x = true := by decide +kernel
noncomputable def P_X6_turn : AP := (PF_RX6, PK_RX6, PS_RX6, [(57, 2, F_X6_tell), (70, 2, F_X1_hasHandle)], [(49, 1, F_X6_isKind)], [])
noncomputable def g_X6_turn_18  (h : HP) : Option (Int32 × HP) := (f_X6_tell ((-1000000001)) h).bind (fun q_1 => some (q_1.1, q_1.2))
def pk_X6_turn_18 (k : HP → Option (Int32 × HP)) : List AV → List AV → HP → Option (Int32 × HP) := fun L st h => match L, st with
  | [.inr (.inr (.inl (6, 0))), .inl _, .inl _, .inr (.inr (.inr ())), .inr (.inr (.inr ()))], [] => k h
  | _, _ => none
theorem pk_X6_turn_18_ok {Wp : List AV → List AV → HP → Prop} {r : (Int32 × HP)} {k : HP → Option (Int32 × HP)} (hk : ∀ (w1 : Int32) (w2 : Int32) (h : HP), k h = some r → Wp [.inr (.inr (.inl (6, 0))), .inl w1, .inl w2, .inr (.inr (.inr ())), .inr (.inr (.inr ()))] [] h) : ∀ L st h, pk_X6_turn_18 k L st h = some r → Wp L st h := by
  intro L st h q
  unfold pk_X6_turn_18 at q
  split at q
  · exact hk _ _ _ q
  · cases q
noncomputable def f_X6_turn (a1 : Int32) (a2 : Int32) (h : HP) : Option (Int32 × HP) := (f_X1_hasHandle 0 a1 h).bind (fun q_1 => if q_1.1 = (0 : Int32) then (g_X6_turn_18 q_1.2) else ((f_X6_isKind a2 q_1.2).bind (fun q_2 => if q_2.1 = (0 : Int32) then (g_X6_turn_18 q_2.2) else ((am_ix a1 8).bind (fun k_3 => some (h_rI q_2.2 0 (8 * 0 + k_3) 0, h_wI q_2.2 0 (8 * 0 + k_3) 0 a2))))))
noncomputable def fl_X6_turn : List AV → HP → Option (Int32 × HP) := fun as h => match as with
  | [.inr (.inr (.inl (6, 0))), .inl a1, .inl a2] => f_X6_turn a1 a2 h
  | _ => none
noncomputable def F_X6_turn : AF := .inl fl_X6_turn
set_option maxRecDepth 20000 in
theorem w_X6_turn_18 {p : Program} {l : Launch} {e : Env} {R : Room} {s : State} {m : MethodId} {args : Array Value} {below : List Frame} {meth : Method} {c : Code} {cells slots : Nat} {G : AG} {Q : (Int32 × HP) → State → Prop} (CX : am_X p l e R s m args below meth c cells slots G 5 cX6_turn RX6 am_tb P_X6_turn am_rI Q) {r : (Int32 × HP)} : ∀ (w1 : Int32) (w2 : Int32) (h : HP), g_X6_turn_18 h = some r → am_W p l e R s m args below meth c cells slots G 5 (Q r) 18 [.inr (.inr (.inl (6, 0))), .inl w1, .inl w2, .inr (.inr (.inr ())), .inr (.inr (.inr ()))] [] h := by
  intro w1 w2 h q
  exact am_run_ok CX ok_X6_turn (K := []) (am_K0 (Wp := am_W p l e R s m args below meth c cells slots G 5 (Q r))) 7 18 _ _ _ q
set_option maxRecDepth 20000 in
theorem b_X6_turn (l : Launch) (G : AG) : am_B l G 5 cX6_turn RX6 am_tb P_X6_turn am_rI fl_X6_turn := by
  intro p e R s m args below meth c cells slots Q CX as h r q
  unfold fl_X6_turn at q
  split at q
  · exact am_run_ok CX ok_X6_turn (K := [(18, pk_X6_turn_18 (g_X6_turn_18))]) (am_K1 (Wp := am_W p l e R s m args below meth c cells slots G 5 (Q r)) (pk_X6_turn_18_ok (Wp := am_W p l e R s m args below meth c cells slots G 5 (Q r) 18) (w_X6_turn_18 CX)) am_K0) 25 0 _ _ _ q
  · cases q
theorem s_X6_turn : ∀ as h x, fl_X6_turn as h = some x → (∀ k, (some 6 : Option Nat) = some k → ∃ (j : Nat) (as' : List AV), as = .inr (.inr (.inl (k, j))) :: as') ∧ (am_l0 as).length ≤ 5 := by
  intro as h x q
  unfold fl_X6_turn at q
  split at q
  · exact ⟨fun k e => by cases e; exact ⟨_, _, rfl⟩, Nat.le_of_ble_eq_true rfl⟩
  · cases q
theorem M_X6_turn (l : Launch) (G : AG) : am_M l G yX6_turn cX6_turn 5 (some .int) 1 22 (some 6) F_X6_turn := am_M_of (f := fl_X6_turn) (toR := fun x => (some (.inl x.1), x.2)) (P := P_X6_turn) (Rr := am_rI) (own := RX6) (by decide) rfl (fun _ _ => rfl) s_X6_turn am_wrI am_rkI pf_RX6 pk_RX6 ps_RX6 (List.forall_mem_cons.mpr ⟨cv_RX6_57 l G (by decide) (by decide), (List.forall_mem_cons.mpr ⟨cv_RX6_70 l G (by decide) (by decide), (fun _ q => by cases q)⟩)⟩) (List.forall_mem_cons.mpr ⟨cs_RX6_49 l G (by decide) (by decide), (fun _ q => by cases q)⟩) (fun _ q => by cases q) (b_X6_turn l G)
theorem cv_RX6_117 (l : Launch) (G : AG) {fr lo : Nat} (h1 : 0 + 1 ≤ fr) (h2 : 8 + (2 + 11) + 0 ≤ lo) : am_cvOK l G RX6 fr lo (117, 2, F_X0_isOfKind) := ⟨yX0_isOfKind, cX0_isOfKind, 2, (some .boolean), 0, 0, 0, RX0, M_X0_isOfKind l G, ⟨(am_tb_mem (wd_5 _ (List.mem_of_getElem? (i := 27) rfl))), (am_tb_mem (wd_5 _ (List.mem_of_getElem? (i := 28) rfl))), (am_tb_mem (wd_5 _ (List.mem_of_getElem? (i := 29) rfl))), (am_tb_mem (wd_1 _ (List.mem_of_getElem? (i := 21) rfl))), (am_tb_mem (wd_5 _ (List.mem_of_getElem? (i := 30) rfl)))⟩, ⟨rfl, by decide, by decide, by decide +kernel⟩, Or.inl ⟨by decide, rfl⟩, h1, h2⟩
def C_X6_as : List AC := [(0, .aload_n 0, 1, []), (1, .getfield 10, 4, []), (4, .iload_n 1, 5, []), (5, .invokevirtual 70, 8, []), (8, .ifCond .eq 10, 11, [18]), (11, .iload_n 2, 12, []), (12, .invokestatic 49, 15, []), (15, .ifCond .ne 10, 18, [25]), (18, .aload_n 0, 19, []), (19, .ldc 56, 21, []), (21, .invokevirtual 57, 24, []), (24, .ireturn, 25, []), (25, .aload_n 0, 26, []), (26, .getfield 10, 29, []), (29, .getfield 73, 32, []), (32, .iload_n 1, 33, []), (33, .aaload, 34, []), (34, .astore_n 3, 35, []), (35, .aload_n 3, 36, []), (36, .iload_n 2, 37, []), (37, .invokevirtual 117, 40, []), (40, .ifCond .eq 10, 43, [50]), (43, .aload_n 3, 44, []), (44, .getfield 89, 47, []), (47, .goto 9, 50, [56]), (50, .aload_n 0, 51, []), (51, .ldc 120, 53, []), (53, .invokevirtual 57, 56, []), (56, .ireturn, 57, [])]
theorem ok_X6_as : ∀ x ∈ C_X6_as, am_ok cX6_as 4 x = true := by decide +kernel
noncomputable def P_X6_as : AP := (PF_RX6, PK_RX6, PS_RX6, [(57, 2, F_X6_tell), (70, 2, F_X1_hasHandle), (117, 2, F_X0_isOfKind)], [(49, 1, F_X6_isKind)], [])
noncomputable def g_X6_as_18  (h : HP) : Option (Int32 × HP) := (f_X6_tell ((-1000000001)) h).bind (fun q_1 => some (q_1.1, q_1.2))
def pk_X6_as_18 (k : HP → Option (Int32 × HP)) : List AV → List AV → HP → Option (Int32 × HP) := fun L st h => match L, st with
  | [.inr (.inr (.inl (6, 0))), .inl _, .inl _, .inr (.inr (.inr ()))], [] => k h
  | _, _ => none
theorem pk_X6_as_18_ok {Wp : List AV → List AV → HP → Prop} {r : (Int32 × HP)} {k : HP → Option (Int32 × HP)} (hk : ∀ (w1 : Int32) (w2 : Int32) (h : HP), k h = some r → Wp [.inr (.inr (.inl (6, 0))), .inl w1, .inl w2, .inr (.inr (.inr ()))] [] h) : ∀ L st h, pk_X6_as_18 k L st h = some r → Wp L st h := by
  intro L st h q
  unfold pk_X6_as_18 at q
  split at q
  · exact hk _ _ _ q
  · cases q
noncomputable def f_X6_as (a1 : Int32) (a2 : Int32) (h : HP) : Option (Int32 × HP) := (f_X1_hasHandle 0 a1 h).bind (fun q_1 => if q_1.1 = (0 : Int32) then (g_X6_as_18 q_1.2) else ((f_X6_isKind a2 q_1.2).bind (fun q_2 => if q_2.1 = (0 : Int32) then (g_X6_as_18 q_2.2) else ((am_ix a1 8).bind (fun k_3 => (f_X0_isOfKind (8 * 0 + k_3) a2 q_2.2).bind (fun q_4 => if q_4.1 = (0 : Int32) then ((f_X6_tell ((-1000000003)) q_4.2).bind (fun q_5 => some (q_5.1, q_5.2))) else (some (h_rI q_4.2 0 (8 * 0 + k_3) 3, q_4.2))))))))
noncomputable def fl_X6_as : List AV → HP → Option (Int32 × HP) := fun as h => match as with
  | [.inr (.inr (.inl (6, 0))), .inl a1, .inl a2] => f_X6_as a1 a2 h
  | _ => none
noncomputable def F_X6_as : AF := .inl fl_X6_as
set_option maxRecDepth 20000 in
theorem w_X6_as_18 {p : Program} {l : Launch} {e : Env} {R : Room} {s : State} {m : MethodId} {args : Array Value} {below : List Frame} {meth : Method} {c : Code} {cells slots : Nat} {G : AG} {Q : (Int32 × HP) → State → Prop} (CX : am_X p l e R s m args below meth c cells slots G 4 cX6_as RX6 am_tb P_X6_as am_rI Q) {r : (Int32 × HP)} : ∀ (w1 : Int32) (w2 : Int32) (h : HP), g_X6_as_18 h = some r → am_W p l e R s m args below meth c cells slots G 4 (Q r) 18 [.inr (.inr (.inl (6, 0))), .inl w1, .inl w2, .inr (.inr (.inr ()))] [] h := by
  intro w1 w2 h q
  exact am_run_ok CX ok_X6_as (K := []) (am_K0 (Wp := am_W p l e R s m args below meth c cells slots G 4 (Q r))) 7 18 _ _ _ q
set_option maxRecDepth 20000 in
theorem b_X6_as (l : Launch) (G : AG) : am_B l G 4 cX6_as RX6 am_tb P_X6_as am_rI fl_X6_as := by
  intro p e R s m args below meth c cells slots Q CX as h r q
  unfold fl_X6_as at q
  split at q
  · exact am_run_ok CX ok_X6_as (K := [(18, pk_X6_as_18 (g_X6_as_18))]) (am_K1 (Wp := am_W p l e R s m args below meth c cells slots G 4 (Q r)) (pk_X6_as_18_ok (Wp := am_W p l e R s m args below meth c cells slots G 4 (Q r) 18) (w_X6_as_18 CX)) am_K0) 25 0 _ _ _ q
  · cases q
theorem s_X6_as : ∀ as h x, fl_X6_as as h = some x → (∀ k, (some 6 : Option Nat) = some k → ∃ (j : Nat) (as' : List AV), as = .inr (.inr (.inl (k, j))) :: as') ∧ (am_l0 as).length ≤ 4 := by
  intro as h x q
  unfold fl_X6_as at q
  split at q
  · exact ⟨fun k e => by cases e; exact ⟨_, _, rfl⟩, Nat.le_of_ble_eq_true rfl⟩
  · cases q
theorem M_X6_as (l : Launch) (G : AG) : am_M l G yX6_as cX6_as 4 (some .int) 1 22 (some 6) F_X6_as := am_M_of (f := fl_X6_as) (toR := fun x => (some (.inl x.1), x.2)) (P := P_X6_as) (Rr := am_rI) (own := RX6) (by decide) rfl (fun _ _ => rfl) s_X6_as am_wrI am_rkI pf_RX6 pk_RX6 ps_RX6 (List.forall_mem_cons.mpr ⟨cv_RX6_57 l G (by decide) (by decide), (List.forall_mem_cons.mpr ⟨cv_RX6_70 l G (by decide) (by decide), (List.forall_mem_cons.mpr ⟨cv_RX6_117 l G (by decide) (by decide), (fun _ q => by cases q)⟩)⟩)⟩) (List.forall_mem_cons.mpr ⟨cs_RX6_49 l G (by decide) (by decide), (fun _ q => by cases q)⟩) (fun _ q => by cases q) (b_X6_as l G)
theorem cv_RX6_121 (l : Launch) (G : AG) {fr lo : Nat} (h1 : 3 + 1 ≤ fr) (h2 : 8 + (3 + 11) + 71 ≤ lo) : am_cvOK l G RX6 fr lo (121, 3, F_X1_opensIn) := ⟨yX1_opensIn, cX1_opensIn, 3, (some .boolean), 3, 71, 1, RX1, M_X1_opensIn l G, ⟨(am_tb_mem (wd_5 _ (List.mem_of_getElem? (i := 36) rfl))), (am_tb_mem (wd_5 _ (List.mem_of_getElem? (i := 37) rfl))), (am_tb_mem (wd_5 _ (List.mem_of_getElem? (i := 38) rfl))), (am_tb_mem (wd_1 _ (List.mem_of_getElem? (i := 20) rfl))), (am_tb_mem (wd_5 _ (List.mem_of_getElem? (i := 39) rfl)))⟩, ⟨rfl, by decide, by decide, by decide +kernel⟩, Or.inl ⟨by decide, rfl⟩, h1, h2⟩
theorem cv_RX6_125 (l : Launch) (G : AG) {fr lo : Nat} (h1 : 3 + 1 ≤ fr) (h2 : 8 + (3 + 11) + 66 ≤ lo) : am_cvOK l G RX6 fr lo (125, 3, F_X1_ledTo) := ⟨yX1_ledTo, cX1_ledTo, 3, (some .int), 3, 66, 1, RX1, M_X1_ledTo l G, ⟨(am_tb_mem (wd_6 _ (List.mem_of_getElem? (i := 9) rfl))), (am_tb_mem (wd_6 _ (List.mem_of_getElem? (i := 10) rfl))), (am_tb_mem (wd_6 _ (List.mem_of_getElem? (i := 11) rfl))), (am_tb_mem (wd_1 _ (List.mem_of_getElem? (i := 20) rfl))), (am_tb_mem (wd_6 _ (List.mem_of_getElem? (i := 12) rfl)))⟩, ⟨rfl, by decide, by decide, by decide +kernel⟩, Or.inl ⟨by decide, rfl⟩, h1, h2⟩
def C_X6_leads : List AC := [(0, .aload_n 0, 1, []), (1, .getfield 10, 4, []), (4, .iload_n 1, 5, []), (5, .invokevirtual 70, 8, []), (8, .ifCond .eq 10, 11, [18]), (11, .iload_n 2, 12, []), (12, .invokestatic 53, 15, []), (15, .ifCond .ne 10, 18, [25]), (18, .aload_n 0, 19, []), (19, .ldc 56, 21, []), (21, .invokevirtual 57, 24, []), (24, .ireturn, 25, []), (25, .aload_n 0, 26, []), (26, .getfield 10, 29, []), (29, .iload_n 1, 30, []), (30, .iload_n 2, 31, []), (31, .invokevirtual 121, 34, []), (34, .ifCond .ne 10, 37, [44]), (37, .aload_n 0, 38, []), (38, .ldc 124, 40, []), (40, .invokevirtual 57, 43, []), (43, .ireturn, 44, []), (44, .aload_n 0, 45, []), (45, .getfield 10, 48, []), (48, .iload_n 1, 49, []), (49, .iload_n 2, 50, []), (50, .invokevirtual 125, 53, []), (53, .ireturn, 54, [])]
theorem ok_X6_leads : ∀ x ∈ C_X6_leads, am_ok cX6_leads 3 x = true := by decide +kernel
noncomputable def P_X6_leads : AP := (PF_RX6, PK_RX6, PS_RX6, [(57, 2, F_X6_tell), (70, 2, F_X1_hasHandle), (121, 3, F_X1_opensIn), (125, 3, F_X1_ledTo)], [(53, 1, F_X6_isRoom)], [])
noncomputable def g_X6_leads_18  (h : HP) : Option (Int32 × HP) := (f_X6_tell ((-1000000001)) h).bind (fun q_1 => some (q_1.1, q_1.2))
def pk_X6_leads_18 (k : HP → Option (Int32 × HP)) : List AV → List AV → HP → Option (Int32 × HP) := fun L st h => match L, st with
  | [.inr (.inr (.inl (6, 0))), .inl _, .inl _], [] => k h
  | _, _ => none
theorem pk_X6_leads_18_ok {Wp : List AV → List AV → HP → Prop} {r : (Int32 × HP)} {k : HP → Option (Int32 × HP)} (hk : ∀ (w1 : Int32) (w2 : Int32) (h : HP), k h = some r → Wp [.inr (.inr (.inl (6, 0))), .inl w1, .inl w2] [] h) : ∀ L st h, pk_X6_leads_18 k L st h = some r → Wp L st h := by
  intro L st h q
  unfold pk_X6_leads_18 at q
  split at q
  · exact hk _ _ _ q
  · cases q
noncomputable def f_X6_leads (a1 : Int32) (a2 : Int32) (h : HP) : Option (Int32 × HP) := (f_X1_hasHandle 0 a1 h).bind (fun q_1 => if q_1.1 = (0 : Int32) then (g_X6_leads_18 q_1.2) else ((f_X6_isRoom a2 q_1.2).bind (fun q_2 => if q_2.1 = (0 : Int32) then (g_X6_leads_18 q_2.2) else ((f_X1_opensIn 0 a1 a2 q_2.2).bind (fun q_3 => if q_3.1 = (0 : Int32) then ((f_X6_tell ((-1000000004)) q_3.2).bind (fun q_5 => some (q_5.1, q_5.2))) else ((f_X1_ledTo 0 a1 a2 q_3.2).bind (fun q_4 => some (q_4.1, q_4.2))))))))
noncomputable def fl_X6_leads : List AV → HP → Option (Int32 × HP) := fun as h => match as with
  | [.inr (.inr (.inl (6, 0))), .inl a1, .inl a2] => f_X6_leads a1 a2 h
  | _ => none
noncomputable def F_X6_leads : AF := .inl fl_X6_leads
set_option maxRecDepth 20000 in
theorem w_X6_leads_18 {p : Program} {l : Launch} {e : Env} {R : Room} {s : State} {m : MethodId} {args : Array Value} {below : List Frame} {meth : Method} {c : Code} {cells slots : Nat} {G : AG} {Q : (Int32 × HP) → State → Prop} (CX : am_X p l e R s m args below meth c cells slots G 3 cX6_leads RX6 am_tb P_X6_leads am_rI Q) {r : (Int32 × HP)} : ∀ (w1 : Int32) (w2 : Int32) (h : HP), g_X6_leads_18 h = some r → am_W p l e R s m args below meth c cells slots G 3 (Q r) 18 [.inr (.inr (.inl (6, 0))), .inl w1, .inl w2] [] h := by
  intro w1 w2 h q
  exact am_run_ok CX ok_X6_leads (K := []) (am_K0 (Wp := am_W p l e R s m args below meth c cells slots G 3 (Q r))) 7 18 _ _ _ q
set_option maxRecDepth 20000 in
theorem b_X6_leads (l : Launch) (G : AG) : am_B l G 3 cX6_leads RX6 am_tb P_X6_leads am_rI fl_X6_leads := by
  intro p e R s m args below meth c cells slots Q CX as h r q
  unfold fl_X6_leads at q
  split at q
  · exact am_run_ok CX ok_X6_leads (K := [(18, pk_X6_leads_18 (g_X6_leads_18))]) (am_K1 (Wp := am_W p l e R s m args below meth c cells slots G 3 (Q r)) (pk_X6_leads_18_ok (Wp := am_W p l e R s m args below meth c cells slots G 3 (Q r) 18) (w_X6_leads_18 CX)) am_K0) 23 0 _ _ _ q
  · cases q
theorem s_X6_leads : ∀ as h x, fl_X6_leads as h = some x → (∀ k, (some 6 : Option Nat) = some k → ∃ (j : Nat) (as' : List AV), as = .inr (.inr (.inl (k, j))) :: as') ∧ (am_l0 as).length ≤ 3 := by
  intro as h x q
  unfold fl_X6_leads at q
  split at q
  · exact ⟨fun k e => by cases e; exact ⟨_, _, rfl⟩, Nat.le_of_ble_eq_true rfl⟩
  · cases q
theorem M_X6_leads (l : Launch) (G : AG) : am_M l G yX6_leads cX6_leads 3 (some .int) 4 93 (some 6) F_X6_leads := am_M_of (f := fl_X6_leads) (toR := fun x => (some (.inl x.1), x.2)) (P := P_X6_leads) (Rr := am_rI) (own := RX6) (by decide) rfl (fun _ _ => rfl) s_X6_leads am_wrI am_rkI pf_RX6 pk_RX6 ps_RX6 (List.forall_mem_cons.mpr ⟨cv_RX6_57 l G (by decide) (by decide), (List.forall_mem_cons.mpr ⟨cv_RX6_70 l G (by decide) (by decide), (List.forall_mem_cons.mpr ⟨cv_RX6_121 l G (by decide) (by decide), (List.forall_mem_cons.mpr ⟨cv_RX6_125 l G (by decide) (by decide), (fun _ q => by cases q)⟩)⟩)⟩)⟩) (List.forall_mem_cons.mpr ⟨cs_RX6_53 l G (by decide) (by decide), (fun _ q => by cases q)⟩) (fun _ q => by cases q) (b_X6_leads l G)
theorem cv_RX6_129 (l : Launch) (G : AG) {fr lo : Nat} (h1 : 0 + 1 ≤ fr) (h2 : 8 + (2 + 11) + 0 ≤ lo) : am_cvOK l G RX6 fr lo (129, 2, F_X0_isPairOf) := ⟨yX0_isPairOf, cX0_isPairOf, 2, (some .boolean), 0, 0, 0, RX0, M_X0_isPairOf l G, ⟨(am_tb_mem (wd_6 _ (List.mem_of_getElem? (i := 21) rfl))), (am_tb_mem (wd_6 _ (List.mem_of_getElem? (i := 22) rfl))), (am_tb_mem (wd_6 _ (List.mem_of_getElem? (i := 23) rfl))), (am_tb_mem (wd_1 _ (List.mem_of_getElem? (i := 21) rfl))), (am_tb_mem (wd_6 _ (List.mem_of_getElem? (i := 24) rfl)))⟩, ⟨rfl, by decide, by decide, by decide +kernel⟩, Or.inl ⟨by decide, rfl⟩, h1, h2⟩
def C_X6_pair : List AC := [(0, .aload_n 0, 1, []), (1, .getfield 10, 4, []), (4, .iload_n 1, 5, []), (5, .invokevirtual 70, 8, []), (8, .ifCond .eq 19, 11, [27]), (11, .aload_n 0, 12, []), (12, .getfield 10, 15, []), (15, .iload_n 2, 16, []), (16, .invokevirtual 70, 19, []), (19, .ifCond .eq 8, 22, [27]), (22, .iload_n 1, 23, []), (23, .iload_n 2, 24, []), (24, .if_icmp .ne 10, 27, [34]), (27, .aload_n 0, 28, []), (28, .ldc 56, 30, []), (30, .invokevirtual 57, 33, []), (33, .ireturn, 34, []), (34, .aload_n 0, 35, []), (35, .getfield 10, 38, []), (38, .getfield 73, 41, []), (41, .iload_n 1, 42, []), (42, .aaload, 43, []), (43, .aload_n 0, 44, []), (44, .getfield 10, 47, []), (47, .getfield 73, 50, []), (50, .iload_n 2, 51, []), (51, .aaload, 52, []), (52, .invokevirtual 129, 55, []), (55, .ifCond .eq 7, 58, [62]), (58, .iconst 1, 59, []), (59, .goto 4, 62, [63]), (62, .iconst 0, 63, []), (63, .ireturn, 64, [])]
theorem ok_X6_pair : ∀ x ∈ C_X6_pair, am_ok cX6_pair 3 x = true := by decide +kernel
noncomputable def P_X6_pair : AP := (PF_RX6, PK_RX6, PS_RX6, [(57, 2, F_X6_tell), (70, 2, F_X1_hasHandle), (129, 2, F_X0_isPairOf)], [], [])
noncomputable def g_X6_pair_27  (h : HP) : Option (Int32 × HP) := (f_X6_tell ((-1000000001)) h).bind (fun q_1 => some (q_1.1, q_1.2))
def pk_X6_pair_27 (k : HP → Option (Int32 × HP)) : List AV → List AV → HP → Option (Int32 × HP) := fun L st h => match L, st with
  | [.inr (.inr (.inl (6, 0))), .inl _, .inl _], [] => k h
  | _, _ => none
theorem pk_X6_pair_27_ok {Wp : List AV → List AV → HP → Prop} {r : (Int32 × HP)} {k : HP → Option (Int32 × HP)} (hk : ∀ (w1 : Int32) (w2 : Int32) (h : HP), k h = some r → Wp [.inr (.inr (.inl (6, 0))), .inl w1, .inl w2] [] h) : ∀ L st h, pk_X6_pair_27 k L st h = some r → Wp L st h := by
  intro L st h q
  unfold pk_X6_pair_27 at q
  split at q
  · exact hk _ _ _ q
  · cases q
noncomputable def f_X6_pair (a1 : Int32) (a2 : Int32) (h : HP) : Option (Int32 × HP) := (f_X1_hasHandle 0 a1 h).bind (fun q_1 => if q_1.1 = (0 : Int32) then (g_X6_pair_27 q_1.2) else ((f_X1_hasHandle 0 a2 q_1.2).bind (fun q_2 => if q_2.1 = (0 : Int32) then (g_X6_pair_27 q_2.2) else (if a1 = a2 then (g_X6_pair_27 q_2.2) else ((am_ix a1 8).bind (fun k_3 => (am_ix a2 8).bind (fun k_4 => (f_X0_isPairOf (8 * 0 + k_3) (8 * 0 + k_4) q_2.2).bind (fun q_5 => if q_5.1 = (0 : Int32) then (some (0, q_5.2)) else (some (1, q_5.2))))))))))
noncomputable def fl_X6_pair : List AV → HP → Option (Int32 × HP) := fun as h => match as with
  | [.inr (.inr (.inl (6, 0))), .inl a1, .inl a2] => f_X6_pair a1 a2 h
  | _ => none
noncomputable def F_X6_pair : AF := .inl fl_X6_pair
set_option maxRecDepth 20000 in
theorem w_X6_pair_27 {p : Program} {l : Launch} {e : Env} {R : Room} {s : State} {m : MethodId} {args : Array Value} {below : List Frame} {meth : Method} {c : Code} {cells slots : Nat} {G : AG} {Q : (Int32 × HP) → State → Prop} (CX : am_X p l e R s m args below meth c cells slots G 3 cX6_pair RX6 am_tb P_X6_pair am_rI Q) {r : (Int32 × HP)} : ∀ (w1 : Int32) (w2 : Int32) (h : HP), g_X6_pair_27 h = some r → am_W p l e R s m args below meth c cells slots G 3 (Q r) 27 [.inr (.inr (.inl (6, 0))), .inl w1, .inl w2] [] h := by
  intro w1 w2 h q
  exact am_run_ok CX ok_X6_pair (K := []) (am_K0 (Wp := am_W p l e R s m args below meth c cells slots G 3 (Q r))) 7 27 _ _ _ q
set_option maxRecDepth 20000 in
theorem b_X6_pair (l : Launch) (G : AG) : am_B l G 3 cX6_pair RX6 am_tb P_X6_pair am_rI fl_X6_pair := by
  intro p e R s m args below meth c cells slots Q CX as h r q
  unfold fl_X6_pair at q
  split at q
  · exact am_run_ok CX ok_X6_pair (K := [(27, pk_X6_pair_27 (g_X6_pair_27))]) (am_K1 (Wp := am_W p l e R s m args below meth c cells slots G 3 (Q r)) (pk_X6_pair_27_ok (Wp := am_W p l e R s m args below meth c cells slots G 3 (Q r) 27) (w_X6_pair_27 CX)) am_K0) 31 0 _ _ _ q
  · cases q
theorem s_X6_pair : ∀ as h x, fl_X6_pair as h = some x → (∀ k, (some 6 : Option Nat) = some k → ∃ (j : Nat) (as' : List AV), as = .inr (.inr (.inl (k, j))) :: as') ∧ (am_l0 as).length ≤ 3 := by
  intro as h x q
  unfold fl_X6_pair at q
  split at q
  · exact ⟨fun k e => by cases e; exact ⟨_, _, rfl⟩, Nat.le_of_ble_eq_true rfl⟩
  · cases q
theorem M_X6_pair (l : Launch) (G : AG) : am_M l G yX6_pair cX6_pair 3 (some .int) 1 22 (some 6) F_X6_pair := am_M_of (f := fl_X6_pair) (toR := fun x => (some (.inl x.1), x.2)) (P := P_X6_pair) (Rr := am_rI) (own := RX6) (by decide) rfl (fun _ _ => rfl) s_X6_pair am_wrI am_rkI pf_RX6 pk_RX6 ps_RX6 (List.forall_mem_cons.mpr ⟨cv_RX6_57 l G (by decide) (by decide), (List.forall_mem_cons.mpr ⟨cv_RX6_70 l G (by decide) (by decide), (List.forall_mem_cons.mpr ⟨cv_RX6_129 l G (by decide) (by decide), (fun _ q => by cases q)⟩)⟩)⟩) (fun _ q => by cases q) (fun _ q => by cases q) (b_X6_pair l G)
theorem cv_RX6_133 (l : Launch) (G : AG) {fr lo : Nat} (h1 : 0 + 1 ≤ fr) (h2 : 8 + (1 + 11) + 0 ≤ lo) : am_cvOK l G RX6 fr lo (133, 1, F_X1_hasPlaceForMember) := ⟨yX1_hasPlaceForMember, cX1_hasPlaceForMember, 1, (some .boolean), 0, 0, 1, RX1, M_X1_hasPlaceForMember l G, ⟨(am_tb_mem (wd_6 _ (List.mem_of_getElem? (i := 29) rfl))), (am_tb_mem (wd_6 _ (List.mem_of_getElem? (i := 30) rfl))), (am_tb_mem (wd_6 _ (List.mem_of_getElem? (i := 31) rfl))), (am_tb_mem (wd_1 _ (List.mem_of_getElem? (i := 20) rfl))), (am_tb_mem (wd_6 _ (List.mem_of_getElem? (i := 32) rfl)))⟩, ⟨rfl, by decide, by decide, by decide +kernel⟩, Or.inl ⟨by decide, rfl⟩, h1, h2⟩
theorem cv_RX6_136 (l : Launch) (G : AG) {fr lo : Nat} (h1 : 0 + 1 ≤ fr) (h2 : 8 + (2 + 11) + 0 ≤ lo) : am_cvOK l G RX6 fr lo (136, 2, F_X1_addMember) := ⟨yX1_addMember, cX1_addMember, 2, (some .int), 0, 0, 1, RX1, M_X1_addMember l G, ⟨(am_tb_mem (wd_6 _ (List.mem_of_getElem? (i := 33) rfl))), (am_tb_mem (wd_6 _ (List.mem_of_getElem? (i := 34) rfl))), (am_tb_mem (wd_6 _ (List.mem_of_getElem? (i := 35) rfl))), (am_tb_mem (wd_1 _ (List.mem_of_getElem? (i := 20) rfl))), (am_tb_mem (wd_6 _ (List.mem_of_getElem? (i := 36) rfl)))⟩, ⟨rfl, by decide, by decide, by decide +kernel⟩, Or.inl ⟨by decide, rfl⟩, h1, h2⟩
def C_X6_member : List AC := [(0, .iload_n 1, 1, []), (1, .invokestatic 53, 4, []), (4, .ifCond .ne 10, 7, [14]), (7, .aload_n 0, 8, []), (8, .ldc 56, 10, []), (10, .invokevirtual 57, 13, []), (13, .ireturn, 14, []), (14, .aload_n 0, 15, []), (15, .getfield 10, 18, []), (18, .invokevirtual 133, 21, []), (21, .ifCond .ne 10, 24, [31]), (24, .aload_n 0, 25, []), (25, .ldc 65, 27, []), (27, .invokevirtual 57, 30, []), (30, .ireturn, 31, []), (31, .aload_n 0, 32, []), (32, .getfield 10, 35, []), (35, .iload_n 1, 36, []), (36, .invokevirtual 136, 39, []), (39, .ireturn, 40, [])]
theorem ok_X6_member : ∀ x ∈ C_X6_member, am_ok cX6_member 2 x = true := by decide +kernel
noncomputable def P_X6_member : AP := (PF_RX6, PK_RX6, PS_RX6, [(57, 2, F_X6_tell), (133, 1, F_X1_hasPlaceForMember), (136, 2, F_X1_addMember)], [(53, 1, F_X6_isRoom)], [])
noncomputable def f_X6_member (a1 : Int32) (h : HP) : Option (Int32 × HP) := (f_X6_isRoom a1 h).bind (fun q_1 => if q_1.1 = (0 : Int32) then ((f_X6_tell ((-1000000001)) q_1.2).bind (fun q_5 => some (q_5.1, q_5.2))) else ((f_X1_hasPlaceForMember 0 q_1.2).bind (fun q_2 => if q_2.1 = (0 : Int32) then ((f_X6_tell ((-1000000002)) q_2.2).bind (fun q_4 => some (q_4.1, q_4.2))) else ((f_X1_addMember 0 a1 q_2.2).bind (fun q_3 => some (q_3.1, q_3.2))))))
noncomputable def fl_X6_member : List AV → HP → Option (Int32 × HP) := fun as h => match as with
  | [.inr (.inr (.inl (6, 0))), .inl a1] => f_X6_member a1 h
  | _ => none
noncomputable def F_X6_member : AF := .inl fl_X6_member
set_option maxRecDepth 20000 in
theorem b_X6_member (l : Launch) (G : AG) : am_B l G 2 cX6_member RX6 am_tb P_X6_member am_rI fl_X6_member := by
  intro p e R s m args below meth c cells slots Q CX as h r q
  unfold fl_X6_member at q
  split at q
  · exact am_run_ok CX ok_X6_member (K := []) (am_K0 (Wp := am_W p l e R s m args below meth c cells slots G 2 (Q r))) 15 0 _ _ _ q
  · cases q
theorem s_X6_member : ∀ as h x, fl_X6_member as h = some x → (∀ k, (some 6 : Option Nat) = some k → ∃ (j : Nat) (as' : List AV), as = .inr (.inr (.inl (k, j))) :: as') ∧ (am_l0 as).length ≤ 2 := by
  intro as h x q
  unfold fl_X6_member at q
  split at q
  · exact ⟨fun k e => by cases e; exact ⟨_, _, rfl⟩, Nat.le_of_ble_eq_true rfl⟩
  · cases q
theorem M_X6_member (l : Launch) (G : AG) : am_M l G yX6_member cX6_member 2 (some .int) 1 22 (some 6) F_X6_member := am_M_of (f := fl_X6_member) (toR := fun x => (some (.inl x.1), x.2)) (P := P_X6_member) (Rr := am_rI) (own := RX6) (by decide) rfl (fun _ _ => rfl) s_X6_member am_wrI am_rkI pf_RX6 pk_RX6 ps_RX6 (List.forall_mem_cons.mpr ⟨cv_RX6_57 l G (by decide) (by decide), (List.forall_mem_cons.mpr ⟨cv_RX6_133 l G (by decide) (by decide), (List.forall_mem_cons.mpr ⟨cv_RX6_136 l G (by decide) (by decide), (fun _ q => by cases q)⟩)⟩)⟩) (List.forall_mem_cons.mpr ⟨cs_RX6_53 l G (by decide) (by decide), (fun _ q => by cases q)⟩) (fun _ q => by cases q) (b_X6_member l G)
theorem cv_RX6_139 (l : Launch) (G : AG) {fr lo : Nat} (h1 : 0 + 1 ≤ fr) (h2 : 8 + (2 + 11) + 0 ≤ lo) : am_cvOK l G RX6 fr lo (139, 2, F_X1_hasMember) := ⟨yX1_hasMember, cX1_hasMember, 2, (some .boolean), 0, 0, 1, RX1, M_X1_hasMember l G, ⟨(am_tb_mem (wd_7 _ (List.mem_of_getElem? (i := 1) rfl))), (am_tb_mem (wd_7 _ (List.mem_of_getElem? (i := 2) rfl))), (am_tb_mem (wd_7 _ (List.mem_of_getElem? (i := 3) rfl))), (am_tb_mem (wd_1 _ (List.mem_of_getElem? (i := 20) rfl))), (am_tb_mem (wd_7 _ (List.mem_of_getElem? (i := 4) rfl)))⟩, ⟨rfl, by decide, by decide, by decide +kernel⟩, Or.inl ⟨by decide, rfl⟩, h1, h2⟩
theorem cv_RX6_154 (l : Launch) (G : AG) {fr lo : Nat} (h1 : 1 + 1 ≤ fr) (h2 : 8 + (4 + 11) + 22 ≤ lo) : am_cvOK l G RX6 fr lo (154, 2, F_X1_heldBy) := ⟨yX1_heldBy, cX1_heldBy, 4, (some .int), 1, 22, 1, RX1, M_X1_heldBy l G, ⟨(am_tb_mem (wd_7 _ (List.mem_of_getElem? (i := 5) rfl))), (am_tb_mem (wd_7 _ (List.mem_of_getElem? (i := 6) rfl))), (am_tb_mem (wd_7 _ (List.mem_of_getElem? (i := 7) rfl))), (am_tb_mem (wd_1 _ (List.mem_of_getElem? (i := 20) rfl))), (am_tb_mem (wd_7 _ (List.mem_of_getElem? (i := 8) rfl)))⟩, ⟨rfl, by decide, by decide, by decide +kernel⟩, Or.inl ⟨by decide, rfl⟩, h1, h2⟩
theorem cv_RX6_157 (l : Launch) (G : AG) {fr lo : Nat} (h1 : 4 + 1 ≤ fr) (h2 : 8 + (4 + 11) + 93 ≤ lo) : am_cvOK l G RX6 fr lo (157, 2, F_X1_openTo) := ⟨yX1_openTo, cX1_openTo, 4, (some .int), 4, 93, 1, RX1, M_X1_openTo l G, ⟨(am_tb_mem (wd_7 _ (List.mem_of_getElem? (i := 13) rfl))), (am_tb_mem (wd_7 _ (List.mem_of_getElem? (i := 14) rfl))), (am_tb_mem (wd_7 _ (List.mem_of_getElem? (i := 15) rfl))), (am_tb_mem (wd_1 _ (List.mem_of_getElem? (i := 20) rfl))), (am_tb_mem (wd_7 _ (List.mem_of_getElem? (i := 16) rfl)))⟩, ⟨rfl, by decide, by decide, by decide +kernel⟩, Or.inl ⟨by decide, rfl⟩, h1, h2⟩
def C_X6_about : List AC := [(0, .aload_n 0, 1, []), (1, .getfield 10, 4, []), (4, .iload_n 1, 5, []), (5, .invokevirtual 139, 8, []), (8, .ifCond .ne 10, 11, [18]), (11, .aload_n 0, 12, []), (12, .ldc 56, 14, []), (14, .invokevirtual 57, 17, []), (17, .ireturn, 18, []), (18, .iload_n 2, 19, []), (19, .tableswitch 73 0 3 #[29, 42, 55, 64], 48, [92, 48, 61, 74, 83]), (48, .aload_n 0, 49, []), (49, .getfield 10, 52, []), (52, .getfield 142, 55, []), (55, .iload_n 1, 56, []), (56, .aaload, 57, []), (57, .getfield 146, 60, []), (60, .ireturn, 61, []), (61, .aload_n 0, 62, []), (62, .getfield 10, 65, []), (65, .getfield 142, 68, []), (68, .iload_n 1, 69, []), (69, .aaload, 70, []), (70, .getfield 151, 73, []), (73, .ireturn, 74, []), (74, .aload_n 0, 75, []), (75, .getfield 10, 78, []), (78, .iload_n 1, 79, []), (79, .invokevirtual 154, 82, []), (82, .ireturn, 83, []), (83, .aload_n 0, 84, []), (84, .getfield 10, 87, []), (87, .iload_n 1, 88, []), (88, .invokevirtual 157, 91, []), (91, .ireturn, 92, []), (92, .aload_n 0, 93, []), (93, .ldc 56, 95, []), (95, .invokevirtual 57, 98, []), (98, .ireturn, 99, [])]
theorem ok_X6_about : ∀ x ∈ C_X6_about, am_ok cX6_about 3 x = true := by decide +kernel
noncomputable def P_X6_about : AP := (PF_RX6, PK_RX6, PS_RX6, [(57, 2, F_X6_tell), (139, 2, F_X1_hasMember), (154, 2, F_X1_heldBy), (157, 2, F_X1_openTo)], [], [])
noncomputable def f_X6_about (a1 : Int32) (a2 : Int32) (h : HP) : Option (Int32 × HP) := (f_X1_hasMember 0 a1 h).bind (fun q_1 => if q_1.1 = (0 : Int32) then ((f_X6_tell ((-1000000001)) q_1.2).bind (fun q_7 => some (q_7.1, q_7.2))) else (if a2 = 0 then ((am_ix a1 6).bind (fun k_2 => some (h_rI q_1.2 2 (6 * 0 + k_2) 0, q_1.2))) else (if a2 = 1 then ((am_ix a1 6).bind (fun k_3 => some (h_rI q_1.2 2 (6 * 0 + k_3) 1, q_1.2))) else (if a2 = 2 then ((f_X1_heldBy 0 a1 q_1.2).bind (fun q_4 => some (q_4.1, q_4.2))) else (if a2 = 3 then ((f_X1_openTo 0 a1 q_1.2).bind (fun q_5 => some (q_5.1, q_5.2))) else ((f_X6_tell ((-1000000001)) q_1.2).bind (fun q_6 => some (q_6.1, q_6.2))))))))
noncomputable def fl_X6_about : List AV → HP → Option (Int32 × HP) := fun as h => match as with
  | [.inr (.inr (.inl (6, 0))), .inl a1, .inl a2] => f_X6_about a1 a2 h
  | _ => none
noncomputable def F_X6_about : AF := .inl fl_X6_about
set_option maxRecDepth 20000 in
theorem b_X6_about (l : Launch) (G : AG) : am_B l G 3 cX6_about RX6 am_tb P_X6_about am_rI fl_X6_about := by
  intro p e R s m args below meth c cells slots Q CX as h r q
  unfold fl_X6_about at q
  split at q
  · exact am_run_ok CX ok_X6_about (K := []) (am_K0 (Wp := am_W p l e R s m args below meth c cells slots G 3 (Q r))) 17 0 _ _ _ q
  · cases q
theorem s_X6_about : ∀ as h x, fl_X6_about as h = some x → (∀ k, (some 6 : Option Nat) = some k → ∃ (j : Nat) (as' : List AV), as = .inr (.inr (.inl (k, j))) :: as') ∧ (am_l0 as).length ≤ 3 := by
  intro as h x q
  unfold fl_X6_about at q
  split at q
  · exact ⟨fun k e => by cases e; exact ⟨_, _, rfl⟩, Nat.le_of_ble_eq_true rfl⟩
  · cases q
theorem M_X6_about (l : Launch) (G : AG) : am_M l G yX6_about cX6_about 3 (some .int) 5 116 (some 6) F_X6_about := am_M_of (f := fl_X6_about) (toR := fun x => (some (.inl x.1), x.2)) (P := P_X6_about) (Rr := am_rI) (own := RX6) (by decide) rfl (fun _ _ => rfl) s_X6_about am_wrI am_rkI pf_RX6 pk_RX6 ps_RX6 (List.forall_mem_cons.mpr ⟨cv_RX6_57 l G (by decide) (by decide), (List.forall_mem_cons.mpr ⟨cv_RX6_139 l G (by decide) (by decide), (List.forall_mem_cons.mpr ⟨cv_RX6_154 l G (by decide) (by decide), (List.forall_mem_cons.mpr ⟨cv_RX6_157 l G (by decide) (by decide), (fun _ q => by cases q)⟩)⟩)⟩)⟩) (fun _ q => by cases q) (fun _ q => by cases q) (b_X6_about l G)
def C_X6_place : List AC := [(0, .aload_n 0, 1, []), (1, .getfield 10, 4, []), (4, .iload_n 1, 5, []), (5, .invokevirtual 139, 8, []), (8, .ifCond .eq 12, 11, [20]), (11, .iload_n 2, 12, []), (12, .ifCond .lt 8, 15, [20]), (15, .iload_n 2, 16, []), (16, .iconst 1, 17, []), (17, .if_icmp .le 10, 20, [27]), (20, .aload_n 0, 21, []), (21, .ldc 56, 23, []), (23, .invokevirtual 57, 26, []), (26, .ireturn, 27, []), (27, .iload_n 2, 28, []), (28, .ifCond .ne 13, 31, [41]), (31, .iload_n 3, 32, []), (32, .invokestatic 53, 35, []), (35, .ifCond .ne 23, 38, [58]), (38, .goto 13, 41, [51]), (41, .iload_n 3, 42, []), (42, .sipush 9999, 45, []), (45, .invokestatic 113, 48, []), (48, .ifCond .ne 10, 51, [58]), (51, .aload_n 0, 52, []), (52, .ldc 56, 54, []), (54, .invokevirtual 57, 57, []), (57, .ireturn, 58, []), (58, .aload_n 0, 59, []), (59, .getfield 10, 62, []), (62, .getfield 142, 65, []), (65, .iload_n 1, 66, []), (66, .aaload, 67, []), (67, .astore 4, 69, []), (69, .iload_n 2, 70, []), (70, .ifCond .ne 19, 73, [89]), (73, .aload 4, 75, []), (75, .getfield 146, 78, []), (78, .istore 5, 80, []), (80, .aload 4, 82, []), (82, .iload_n 3, 83, []), (83, .putfield 146, 86, []), (86, .goto 16, 89, [102]), (89, .aload 4, 91, []), (91, .getfield 151, 94, []), (94, .istore 5, 96, []), (96, .aload 4, 98, []), (98, .iload_n 3, 99, []), (99, .putfield 151, 102, []), (102, .iload 5, 104, []), (104, .ireturn, 105, [])]
theorem ok_X6_place : ∀ x ∈ C_X6_place, am_ok cX6_place 6 x = true := by decide +kernel
noncomputable def P_X6_place : AP := (PF_RX6, PK_RX6, PS_RX6, [(57, 2, F_X6_tell), (139, 2, F_X1_hasMember)], [(53, 1, F_X6_isRoom), (113, 2, F_X6_isUpTo)], [])
noncomputable def g_X6_place_58 (a1 : Int32) (a2 : Int32) (a3 : Int32) (h : HP) : Option (Int32 × HP) := (am_ix a1 6).bind (fun k_1 => if a2 = (0 : Int32) then (some (h_rI h 2 (6 * 0 + k_1) 0, h_wI h 2 (6 * 0 + k_1) 0 a3)) else (some (h_rI h 2 (6 * 0 + k_1) 1, h_wI h 2 (6 * 0 + k_1) 1 a3)))
def pk_X6_place_58 (k : Int32 → Int32 → Int32 → HP → Option (Int32 × HP)) : List AV → List AV → HP → Option (Int32 × HP) := fun L st h => match L, st with
  | [.inr (.inr (.inl (6, 0))), .inl a1, .inl a2, .inl a3, .inr (.inr (.inr ())), .inr (.inr (.inr ()))], [] => k a1 a2 a3 h
  | _, _ => none
theorem pk_X6_place_58_ok {Wp : List AV → List AV → HP → Prop} {r : (Int32 × HP)} {k : Int32 → Int32 → Int32 → HP → Option (Int32 × HP)} (hk : ∀ (a1 : Int32) (a2 : Int32) (a3 : Int32) (h : HP), k a1 a2 a3 h = some r → Wp [.inr (.inr (.inl (6, 0))), .inl a1, .inl a2, .inl a3, .inr (.inr (.inr ())), .inr (.inr (.inr ()))] [] h) : ∀ L st h, pk_X6_place_58 k L st h = some r → Wp L st h := by
  intro L st h q
  unfold pk_X6_place_58 at q
  split at q
  · exact hk _ _ _ _ q
  · cases q
noncomputable def g_X6_place_51  (h : HP) : Option (Int32 × HP) := (f_X6_tell ((-1000000001)) h).bind (fun q_1 => some (q_1.1, q_1.2))
def pk_X6_place_51 (k : HP → Option (Int32 × HP)) : List AV → List AV → HP → Option (Int32 × HP) := fun L st h => match L, st with
  | [.inr (.inr (.inl (6, 0))), .inl _, .inl _, .inl _, .inr (.inr (.inr ())), .inr (.inr (.inr ()))], [] => k h
  | _, _ => none
theorem pk_X6_place_51_ok {Wp : List AV → List AV → HP → Prop} {r : (Int32 × HP)} {k : HP → Option (Int32 × HP)} (hk : ∀ (w1 : Int32) (w2 : Int32) (w3 : Int32) (h : HP), k h = some r → Wp [.inr (.inr (.inl (6, 0))), .inl w1, .inl w2, .inl w3, .inr (.inr (.inr ())), .inr (.inr (.inr ()))] [] h) : ∀ L st h, pk_X6_place_51 k L st h = some r → Wp L st h := by
  intro L st h q
  unfold pk_X6_place_51 at q
  split at q
  · exact hk _ _ _ _ q
  · cases q
noncomputable def g_X6_place_20  (h : HP) : Option (Int32 × HP) := (f_X6_tell ((-1000000001)) h).bind (fun q_1 => some (q_1.1, q_1.2))
def pk_X6_place_20 (k : HP → Option (Int32 × HP)) : List AV → List AV → HP → Option (Int32 × HP) := fun L st h => match L, st with
  | [.inr (.inr (.inl (6, 0))), .inl _, .inl _, .inl _, .inr (.inr (.inr ())), .inr (.inr (.inr ()))], [] => k h
  | _, _ => none
theorem pk_X6_place_20_ok {Wp : List AV → List AV → HP → Prop} {r : (Int32 × HP)} {k : HP → Option (Int32 × HP)} (hk : ∀ (w1 : Int32) (w2 : Int32) (w3 : Int32) (h : HP), k h = some r → Wp [.inr (.inr (.inl (6, 0))), .inl w1, .inl w2, .inl w3, .inr (.inr (.inr ())), .inr (.inr (.inr ()))] [] h) : ∀ L st h, pk_X6_place_20 k L st h = some r → Wp L st h := by
  intro L st h q
  unfold pk_X6_place_20 at q
  split at q
  · exact hk _ _ _ _ q
  · cases q
noncomputable def f_X6_place (a1 : Int32) (a2 : Int32) (a3 : Int32) (h : HP) : Option (Int32 × HP) := (f_X1_hasMember 0 a1 h).bind (fun q_1 => if q_1.1 = (0 : Int32) then (g_X6_place_20 q_1.2) else (if a2 < (0 : Int32) then (g_X6_place_20 q_1.2) else (if a2 ≤ (1 : Int32) then (if a2 = (0 : Int32) then ((f_X6_isRoom a3 q_1.2).bind (fun q_3 => if q_3.1 = (0 : Int32) then (g_X6_place_51 q_3.2) else (g_X6_place_58 a1 a2 a3 q_3.2))) else ((f_X6_isUpTo a3 9999 q_1.2).bind (fun q_2 => if q_2.1 = (0 : Int32) then (g_X6_place_51 q_2.2) else (g_X6_place_58 a1 a2 a3 q_2.2)))) else (g_X6_place_20 q_1.2))))
noncomputable def fl_X6_place : List AV → HP → Option (Int32 × HP) := fun as h => match as with
  | [.inr (.inr (.inl (6, 0))), .inl a1, .inl a2, .inl a3] => f_X6_place a1 a2 a3 h
  | _ => none
noncomputable def F_X6_place : AF := .inl fl_X6_place
set_option maxRecDepth 20000 in
theorem w_X6_place_58 {p : Program} {l : Launch} {e : Env} {R : Room} {s : State} {m : MethodId} {args : Array Value} {below : List Frame} {meth : Method} {c : Code} {cells slots : Nat} {G : AG} {Q : (Int32 × HP) → State → Prop} (CX : am_X p l e R s m args below meth c cells slots G 6 cX6_place RX6 am_tb P_X6_place am_rI Q) {r : (Int32 × HP)} : ∀ (a1 : Int32) (a2 : Int32) (a3 : Int32) (h : HP), g_X6_place_58 a1 a2 a3 h = some r → am_W p l e R s m args below meth c cells slots G 6 (Q r) 58 [.inr (.inr (.inl (6, 0))), .inl a1, .inl a2, .inl a3, .inr (.inr (.inr ())), .inr (.inr (.inr ()))] [] h := by
  intro a1 a2 a3 h q
  exact am_run_ok CX ok_X6_place (K := []) (am_K0 (Wp := am_W p l e R s m args below meth c cells slots G 6 (Q r))) 20 58 _ _ _ q
set_option maxRecDepth 20000 in
theorem w_X6_place_51 {p : Program} {l : Launch} {e : Env} {R : Room} {s : State} {m : MethodId} {args : Array Value} {below : List Frame} {meth : Method} {c : Code} {cells slots : Nat} {G : AG} {Q : (Int32 × HP) → State → Prop} (CX : am_X p l e R s m args below meth c cells slots G 6 cX6_place RX6 am_tb P_X6_place am_rI Q) {r : (Int32 × HP)} : ∀ (w1 : Int32) (w2 : Int32) (w3 : Int32) (h : HP), g_X6_place_51 h = some r → am_W p l e R s m args below meth c cells slots G 6 (Q r) 51 [.inr (.inr (.inl (6, 0))), .inl w1, .inl w2, .inl w3, .inr (.inr (.inr ())), .inr (.inr (.inr ()))] [] h := by
  intro w1 w2 w3 h q
  exact am_run_ok CX ok_X6_place (K := []) (am_K0 (Wp := am_W p l e R s m args below meth c cells slots G 6 (Q r))) 7 51 _ _ _ q
set_option maxRecDepth 20000 in
theorem w_X6_place_20 {p : Program} {l : Launch} {e : Env} {R : Room} {s : State} {m : MethodId} {args : Array Value} {below : List Frame} {meth : Method} {c : Code} {cells slots : Nat} {G : AG} {Q : (Int32 × HP) → State → Prop} (CX : am_X p l e R s m args below meth c cells slots G 6 cX6_place RX6 am_tb P_X6_place am_rI Q) {r : (Int32 × HP)} : ∀ (w1 : Int32) (w2 : Int32) (w3 : Int32) (h : HP), g_X6_place_20 h = some r → am_W p l e R s m args below meth c cells slots G 6 (Q r) 20 [.inr (.inr (.inl (6, 0))), .inl w1, .inl w2, .inl w3, .inr (.inr (.inr ())), .inr (.inr (.inr ()))] [] h := by
  intro w1 w2 w3 h q
  exact am_run_ok CX ok_X6_place (K := []) (am_K0 (Wp := am_W p l e R s m args below meth c cells slots G 6 (Q r))) 7 20 _ _ _ q
set_option maxRecDepth 20000 in
theorem b_X6_place (l : Launch) (G : AG) : am_B l G 6 cX6_place RX6 am_tb P_X6_place am_rI fl_X6_place := by
  intro p e R s m args below meth c cells slots Q CX as h r q
  unfold fl_X6_place at q
  split at q
  · exact am_run_ok CX ok_X6_place (K := [(20, pk_X6_place_20 (g_X6_place_20)), (58, pk_X6_place_58 (g_X6_place_58)), (51, pk_X6_place_51 (g_X6_place_51))]) (am_K1 (Wp := am_W p l e R s m args below meth c cells slots G 6 (Q r)) (pk_X6_place_20_ok (Wp := am_W p l e R s m args below meth c cells slots G 6 (Q r) 20) (w_X6_place_20 CX)) (am_K1 (Wp := am_W p l e R s m args below meth c cells slots G 6 (Q r)) (pk_X6_place_58_ok (Wp := am_W p l e R s m args below meth c cells slots G 6 (Q r) 58) (w_X6_place_58 CX)) (am_K1 (Wp := am_W p l e R s m args below meth c cells slots G 6 (Q r)) (pk_X6_place_51_ok (Wp := am_W p l e R s m args below meth c cells slots G 6 (Q r) 51) (w_X6_place_51 CX)) am_K0))) 19 0 _ _ _ q
  · cases q
theorem s_X6_place : ∀ as h x, fl_X6_place as h = some x → (∀ k, (some 6 : Option Nat) = some k → ∃ (j : Nat) (as' : List AV), as = .inr (.inr (.inl (k, j))) :: as') ∧ (am_l0 as).length ≤ 6 := by
  intro as h x q
  unfold fl_X6_place at q
  split at q
  · exact ⟨fun k e => by cases e; exact ⟨_, _, rfl⟩, Nat.le_of_ble_eq_true rfl⟩
  · cases q
theorem M_X6_place (l : Launch) (G : AG) : am_M l G yX6_place cX6_place 6 (some .int) 1 22 (some 6) F_X6_place := am_M_of (f := fl_X6_place) (toR := fun x => (some (.inl x.1), x.2)) (P := P_X6_place) (Rr := am_rI) (own := RX6) (by decide) rfl (fun _ _ => rfl) s_X6_place am_wrI am_rkI pf_RX6 pk_RX6 ps_RX6 (List.forall_mem_cons.mpr ⟨cv_RX6_57 l G (by decide) (by decide), (List.forall_mem_cons.mpr ⟨cv_RX6_139 l G (by decide) (by decide), (fun _ q => by cases q)⟩)⟩) (List.forall_mem_cons.mpr ⟨cs_RX6_53 l G (by decide) (by decide), (List.forall_mem_cons.mpr ⟨cs_RX6_113 l G (by decide) (by decide), (fun _ q => by cases q)⟩)⟩) (fun _ q => by cases q) (b_X6_place l G)
def C_X6_loan : List AC := [(0, .iload_n 1, 1, []), (1, .bipush 30, 3, []), (3, .invokestatic 113, 6, []), (6, .ifCond .ne 10, 9, [16]), (9, .aload_n 0, 10, []), (10, .ldc 56, 12, []), (12, .invokevirtual 57, 15, []), (15, .ireturn, 16, []), (16, .aload_n 0, 17, []), (17, .getfield 10, 20, []), (20, .getfield 98, 23, []), (23, .istore_n 2, 24, []), (24, .aload_n 0, 25, []), (25, .getfield 10, 28, []), (28, .iload_n 1, 29, []), (29, .putfield 98, 32, []), (32, .iload_n 2, 33, []), (33, .ireturn, 34, [])]
theorem ok_X6_loan : ∀ x ∈ C_X6_loan, am_ok cX6_loan 3 x = true := by decide +kernel
noncomputable def P_X6_loan : AP := (PF_RX6, PK_RX6, PS_RX6, [(57, 2, F_X6_tell)], [(113, 2, F_X6_isUpTo)], [])
noncomputable def f_X6_loan (a1 : Int32) (h : HP) : Option (Int32 × HP) := (f_X6_isUpTo a1 30 h).bind (fun q_1 => if q_1.1 = (0 : Int32) then ((f_X6_tell ((-1000000001)) q_1.2).bind (fun q_2 => some (q_2.1, q_2.2))) else (some (h_rI q_1.2 1 0 1, h_wI q_1.2 1 0 1 a1)))
noncomputable def fl_X6_loan : List AV → HP → Option (Int32 × HP) := fun as h => match as with
  | [.inr (.inr (.inl (6, 0))), .inl a1] => f_X6_loan a1 h
  | _ => none
noncomputable def F_X6_loan : AF := .inl fl_X6_loan
set_option maxRecDepth 20000 in
theorem b_X6_loan (l : Launch) (G : AG) : am_B l G 3 cX6_loan RX6 am_tb P_X6_loan am_rI fl_X6_loan := by
  intro p e R s m args below meth c cells slots Q CX as h r q
  unfold fl_X6_loan at q
  split at q
  · exact am_run_ok CX ok_X6_loan (K := []) (am_K0 (Wp := am_W p l e R s m args below meth c cells slots G 3 (Q r))) 17 0 _ _ _ q
  · cases q
theorem s_X6_loan : ∀ as h x, fl_X6_loan as h = some x → (∀ k, (some 6 : Option Nat) = some k → ∃ (j : Nat) (as' : List AV), as = .inr (.inr (.inl (k, j))) :: as') ∧ (am_l0 as).length ≤ 3 := by
  intro as h x q
  unfold fl_X6_loan at q
  split at q
  · exact ⟨fun k e => by cases e; exact ⟨_, _, rfl⟩, Nat.le_of_ble_eq_true rfl⟩
  · cases q
theorem M_X6_loan (l : Launch) (G : AG) : am_M l G yX6_loan cX6_loan 3 (some .int) 1 22 (some 6) F_X6_loan := am_M_of (f := fl_X6_loan) (toR := fun x => (some (.inl x.1), x.2)) (P := P_X6_loan) (Rr := am_rI) (own := RX6) (by decide) rfl (fun _ _ => rfl) s_X6_loan am_wrI am_rkI pf_RX6 pk_RX6 ps_RX6 (List.forall_mem_cons.mpr ⟨cv_RX6_57 l G (by decide) (by decide), (fun _ q => by cases q)⟩) (List.forall_mem_cons.mpr ⟨cs_RX6_113 l G (by decide) (by decide), (fun _ q => by cases q)⟩) (fun _ q => by cases q) (b_X6_loan l G)
theorem cv_RX6_160 (l : Launch) (G : AG) {fr lo : Nat} (h1 : 0 + 1 ≤ fr) (h2 : 8 + (1 + 11) + 0 ≤ lo) : am_cvOK l G RX6 fr lo (160, 1, F_X0_isLent) := ⟨yX0_isLent, cX0_isLent, 1, (some .boolean), 0, 0, 0, RX0, M_X0_isLent l G, ⟨(am_tb_mem (wd_7 _ (List.mem_of_getElem? (i := 30) rfl))), (am_tb_mem (wd_7 _ (List.mem_of_getElem? (i := 31) rfl))), (am_tb_mem (wd_7 _ (List.mem_of_getElem? (i := 32) rfl))), (am_tb_mem (wd_1 _ (List.mem_of_getElem? (i := 21) rfl))), (am_tb_mem (wd_7 _ (List.mem_of_getElem? (i := 33) rfl)))⟩, ⟨rfl, by decide, by decide, by decide +kernel⟩, Or.inl ⟨by decide, rfl⟩, h1, h2⟩
theorem cv_RX6_164 (l : Launch) (G : AG) {fr lo : Nat} (h1 : 3 + 1 ≤ fr) (h2 : 8 + (2 + 11) + 66 ≤ lo) : am_cvOK l G RX6 fr lo (164, 2, F_X1_hasHandsFull) := ⟨yX1_hasHandsFull, cX1_hasHandsFull, 2, (some .boolean), 3, 66, 1, RX1, M_X1_hasHandsFull l G, ⟨(am_tb_mem (wd_7 _ (List.mem_of_getElem? (i := 35) rfl))), (am_tb_mem (wd_7 _ (List.mem_of_getElem? (i := 36) rfl))), (am_tb_mem (wd_7 _ (List.mem_of_getElem? (i := 37) rfl))), (am_tb_mem (wd_1 _ (List.mem_of_getElem? (i := 20) rfl))), (am_tb_mem (wd_7 _ (List.mem_of_getElem? (i := 38) rfl)))⟩, ⟨rfl, by decide, by decide, by decide +kernel⟩, Or.inl ⟨by decide, rfl⟩, h1, h2⟩
theorem cv_RX6_167 (l : Launch) (G : AG) {fr lo : Nat} (h1 : 1 + 1 ≤ fr) (h2 : 8 + (4 + 11) + 22 ≤ lo) : am_cvOK l G RX6 fr lo (167, 3, F_X1_holdsPairOf) := ⟨yX1_holdsPairOf, cX1_holdsPairOf, 4, (some .boolean), 1, 22, 1, RX1, M_X1_holdsPairOf l G, ⟨(am_tb_mem (wd_8 _ (List.mem_of_getElem? (i := 10) rfl))), (am_tb_mem (wd_8 _ (List.mem_of_getElem? (i := 11) rfl))), (am_tb_mem (wd_8 _ (List.mem_of_getElem? (i := 12) rfl))), (am_tb_mem (wd_1 _ (List.mem_of_getElem? (i := 20) rfl))), (am_tb_mem (wd_8 _ (List.mem_of_getElem? (i := 13) rfl)))⟩, ⟨rfl, by decide, by decide, by decide +kernel⟩, Or.inl ⟨by decide, rfl⟩, h1, h2⟩
theorem cv_RX6_170 (l : Launch) (G : AG) {fr lo : Nat} (h1 : 2 + 1 ≤ fr) (h2 : 8 + (2 + 11) + 45 ≤ lo) : am_cvOK l G RX6 fr lo (170, 2, F_X1_heldCount) := ⟨yX1_heldCount, cX1_heldCount, 2, (some .int), 2, 45, 1, RX1, M_X1_heldCount l G, ⟨(am_tb_mem (wd_8 _ (List.mem_of_getElem? (i := 15) rfl))), (am_tb_mem (wd_8 _ (List.mem_of_getElem? (i := 0) rfl))), (am_tb_mem (wd_8 _ (List.mem_of_getElem? (i := 1) rfl))), (am_tb_mem (wd_1 _ (List.mem_of_getElem? (i := 20) rfl))), (am_tb_mem (wd_8 _ (List.mem_of_getElem? (i := 2) rfl)))⟩, ⟨rfl, by decide, by decide, by decide +kernel⟩, Or.inl ⟨by decide, rfl⟩, h1, h2⟩
def C_X6_lend : List AC := [(0, .aload_n 0, 1, []), (1, .getfield 10, 4, []), (4, .iload_n 1, 5, []), (5, .invokevirtual 70, 8, []), (8, .ifCond .eq 14, 11, [22]), (11, .aload_n 0, 12, []), (12, .getfield 10, 15, []), (15, .iload_n 2, 16, []), (16, .invokevirtual 139, 19, []), (19, .ifCond .ne 10, 22, [29]), (22, .aload_n 0, 23, []), (23, .ldc 56, 25, []), (25, .invokevirtual 57, 28, []), (28, .ireturn, 29, []), (29, .aload_n 0, 30, []), (30, .getfield 10, 33, []), (33, .getfield 73, 36, []), (36, .iload_n 1, 37, []), (37, .aaload, 38, []), (38, .invokevirtual 160, 41, []), (41, .ifCond .eq 10, 44, [51]), (44, .aload_n 0, 45, []), (45, .ldc 163, 47, []), (47, .invokevirtual 57, 50, []), (50, .ireturn, 51, []), (51, .aload_n 0, 52, []), (52, .getfield 10, 55, []), (55, .iload_n 2, 56, []), (56, .invokevirtual 164, 59, []), (59, .ifCond .eq 10, 62, [69]), (62, .aload_n 0, 63, []), (63, .ldc 65, 65, []), (65, .invokevirtual 57, 68, []), (68, .ireturn, 69, []), (69, .aload_n 0, 70, []), (70, .getfield 10, 73, []), (73, .iload_n 2, 74, []), (74, .iload_n 1, 75, []), (75, .invokevirtual 167, 78, []), (78, .ifCond .eq 10, 81, [88]), (81, .aload_n 0, 82, []), (82, .ldc 120, 84, []), (84, .invokevirtual 57, 87, []), (87, .ireturn, 88, []), (88, .aload_n 0, 89, []), (89, .getfield 10, 92, []), (92, .getfield 73, 95, []), (95, .iload_n 1, 96, []), (96, .aaload, 97, []), (97, .iload_n 2, 98, []), (98, .putfield 92, 101, []), (101, .aload_n 0, 102, []), (102, .getfield 10, 105, []), (105, .iload_n 2, 106, []), (106, .invokevirtual 170, 109, []), (109, .ireturn, 110, [])]
theorem ok_X6_lend : ∀ x ∈ C_X6_lend, am_ok cX6_lend 3 x = true := by decide +kernel
noncomputable def P_X6_lend : AP := (PF_RX6, PK_RX6, PS_RX6, [(57, 2, F_X6_tell), (70, 2, F_X1_hasHandle), (139, 2, F_X1_hasMember), (160, 1, F_X0_isLent), (164, 2, F_X1_hasHandsFull), (167, 3, F_X1_holdsPairOf), (170, 2, F_X1_heldCount)], [], [])
noncomputable def g_X6_lend_22  (h : HP) : Option (Int32 × HP) := (f_X6_tell ((-1000000001)) h).bind (fun q_1 => some (q_1.1, q_1.2))
def pk_X6_lend_22 (k : HP → Option (Int32 × HP)) : List AV → List AV → HP → Option (Int32 × HP) := fun L st h => match L, st with
  | [.inr (.inr (.inl (6, 0))), .inl _, .inl _], [] => k h
  | _, _ => none
theorem pk_X6_lend_22_ok {Wp : List AV → List AV → HP → Prop} {r : (Int32 × HP)} {k : HP → Option (Int32 × HP)} (hk : ∀ (w1 : Int32) (w2 : Int32) (h : HP), k h = some r → Wp [.inr (.inr (.inl (6, 0))), .inl w1, .inl w2] [] h) : ∀ L st h, pk_X6_lend_22 k L st h = some r → Wp L st h := by
  intro L st h q
  unfold pk_X6_lend_22 at q
  split at q
  · exact hk _ _ _ q
  · cases q
noncomputable def f_X6_lend (a1 : Int32) (a2 : Int32) (h : HP) : Option (Int32 × HP) := (f_X1_hasHandle 0 a1 h).bind (fun q_1 => if q_1.1 = (0 : Int32) then (g_X6_lend_22 q_1.2) else ((f_X1_hasMember 0 a2 q_1.2).bind (fun q_2 => if q_2.1 = (0 : Int32) then (g_X6_lend_22 q_2.2) else ((am_ix a1 8).bind (fun k_3 => (f_X0_isLent (8 * 0 + k_3) q_2.2).bind (fun q_4 => if q_4.1 = (0 : Int32) then ((f_X1_hasHandsFull 0 a2 q_4.2).bind (fun q_5 => if q_5.1 = (0 : Int32) then ((f_X1_holdsPairOf 0 a2 a1 q_5.2).bind (fun q_6 => if q_6.1 = (0 : Int32) then ((am_ix a1 8).bind (fun k_7 => (f_X1_heldCount 0 a2 (h_wI q_6.2 0 (8 * 0 + k_7) 4 a2)).bind (fun q_8 => some (q_8.1, q_8.2)))) else ((f_X6_tell ((-1000000003)) q_6.2).bind (fun q_9 => some (q_9.1, q_9.2))))) else ((f_X6_tell ((-1000000002)) q_5.2).bind (fun q_10 => some (q_10.1, q_10.2))))) else ((f_X6_tell ((-1000000005)) q_4.2).bind (fun q_11 => some (q_11.1, q_11.2)))))))))
noncomputable def fl_X6_lend : List AV → HP → Option (Int32 × HP) := fun as h => match as with
  | [.inr (.inr (.inl (6, 0))), .inl a1, .inl a2] => f_X6_lend a1 a2 h
  | _ => none
noncomputable def F_X6_lend : AF := .inl fl_X6_lend
set_option maxRecDepth 20000 in
theorem w_X6_lend_22 {p : Program} {l : Launch} {e : Env} {R : Room} {s : State} {m : MethodId} {args : Array Value} {below : List Frame} {meth : Method} {c : Code} {cells slots : Nat} {G : AG} {Q : (Int32 × HP) → State → Prop} (CX : am_X p l e R s m args below meth c cells slots G 3 cX6_lend RX6 am_tb P_X6_lend am_rI Q) {r : (Int32 × HP)} : ∀ (w1 : Int32) (w2 : Int32) (h : HP), g_X6_lend_22 h = some r → am_W p l e R s m args below meth c cells slots G 3 (Q r) 22 [.inr (.inr (.inl (6, 0))), .inl w1, .inl w2] [] h := by
  intro w1 w2 h q
  exact am_run_ok CX ok_X6_lend (K := []) (am_K0 (Wp := am_W p l e R s m args below meth c cells slots G 3 (Q r))) 7 22 _ _ _ q
set_option maxRecDepth 20000 in
theorem b_X6_lend (l : Launch) (G : AG) : am_B l G 3 cX6_lend RX6 am_tb P_X6_lend am_rI fl_X6_lend := by
  intro p e R s m args below meth c cells slots Q CX as h r q
  unfold fl_X6_lend at q
  split at q
  · exact am_run_ok CX ok_X6_lend (K := [(22, pk_X6_lend_22 (g_X6_lend_22))]) (am_K1 (Wp := am_W p l e R s m args below meth c cells slots G 3 (Q r)) (pk_X6_lend_22_ok (Wp := am_W p l e R s m args below meth c cells slots G 3 (Q r) 22) (w_X6_lend_22 CX)) am_K0) 43 0 _ _ _ q
  · cases q
theorem s_X6_lend : ∀ as h x, fl_X6_lend as h = some x → (∀ k, (some 6 : Option Nat) = some k → ∃ (j : Nat) (as' : List AV), as = .inr (.inr (.inl (k, j))) :: as') ∧ (am_l0 as).length ≤ 3 := by
  intro as h x q
  unfold fl_X6_lend at q
  split at q
  · exact ⟨fun k e => by cases e; exact ⟨_, _, rfl⟩, Nat.le_of_ble_eq_true rfl⟩
  · cases q
theorem M_X6_lend (l : Launch) (G : AG) : am_M l G yX6_lend cX6_lend 3 (some .int) 4 87 (some 6) F_X6_lend := am_M_of (f := fl_X6_lend) (toR := fun x => (some (.inl x.1), x.2)) (P := P_X6_lend) (Rr := am_rI) (own := RX6) (by decide) rfl (fun _ _ => rfl) s_X6_lend am_wrI am_rkI pf_RX6 pk_RX6 ps_RX6 (List.forall_mem_cons.mpr ⟨cv_RX6_57 l G (by decide) (by decide), (List.forall_mem_cons.mpr ⟨cv_RX6_70 l G (by decide) (by decide), (List.forall_mem_cons.mpr ⟨cv_RX6_139 l G (by decide) (by decide), (List.forall_mem_cons.mpr ⟨cv_RX6_160 l G (by decide) (by decide), (List.forall_mem_cons.mpr ⟨cv_RX6_164 l G (by decide) (by decide), (List.forall_mem_cons.mpr ⟨cv_RX6_167 l G (by decide) (by decide), (List.forall_mem_cons.mpr ⟨cv_RX6_170 l G (by decide) (by decide), (fun _ q => by cases q)⟩)⟩)⟩)⟩)⟩)⟩)⟩) (fun _ q => by cases q) (fun _ q => by cases q) (b_X6_lend l G)
def C_X6_back : List AC := [(0, .aload_n 0, 1, []), (1, .getfield 10, 4, []), (4, .iload_n 1, 5, []), (5, .invokevirtual 70, 8, []), (8, .ifCond .ne 10, 11, [18]), (11, .aload_n 0, 12, []), (12, .ldc 56, 14, []), (14, .invokevirtual 57, 17, []), (17, .ireturn, 18, []), (18, .aload_n 0, 19, []), (19, .getfield 10, 22, []), (22, .getfield 73, 25, []), (25, .iload_n 1, 26, []), (26, .aaload, 27, []), (27, .astore_n 2, 28, []), (28, .aload_n 2, 29, []), (29, .invokevirtual 160, 32, []), (32, .ifCond .ne 10, 35, [42]), (35, .aload_n 0, 36, []), (36, .ldc 163, 38, []), (38, .invokevirtual 57, 41, []), (41, .ireturn, 42, []), (42, .aload_n 2, 43, []), (43, .getfield 95, 46, []), (46, .istore_n 3, 47, []), (47, .aload_n 2, 48, []), (48, .iconst (-1), 49, []), (49, .putfield 92, 52, []), (52, .aload_n 2, 53, []), (53, .iconst 0, 54, []), (54, .putfield 95, 57, []), (57, .iload_n 3, 58, []), (58, .ireturn, 59, [])]
theorem ok_X6_back : ∀ x ∈ C_X6_back, am_ok cX6_back 4 x = true := by decide +kernel
noncomputable def P_X6_back : AP := (PF_RX6, PK_RX6, PS_RX6, [(57, 2, F_X6_tell), (70, 2, F_X1_hasHandle), (160, 1, F_X0_isLent)], [], [])
noncomputable def f_X6_back (a1 : Int32) (h : HP) : Option (Int32 × HP) := (f_X1_hasHandle 0 a1 h).bind (fun q_1 => if q_1.1 = (0 : Int32) then ((f_X6_tell ((-1000000001)) q_1.2).bind (fun q_5 => some (q_5.1, q_5.2))) else ((am_ix a1 8).bind (fun k_2 => (f_X0_isLent (8 * 0 + k_2) q_1.2).bind (fun q_3 => if q_3.1 = (0 : Int32) then ((f_X6_tell ((-1000000005)) q_3.2).bind (fun q_4 => some (q_4.1, q_4.2))) else (some (h_rI q_3.2 0 (8 * 0 + k_2) 5, h_wI (h_wI q_3.2 0 (8 * 0 + k_2) 4 ((-1))) 0 (8 * 0 + k_2) 5 0))))))
noncomputable def fl_X6_back : List AV → HP → Option (Int32 × HP) := fun as h => match as with
  | [.inr (.inr (.inl (6, 0))), .inl a1] => f_X6_back a1 h
  | _ => none
noncomputable def F_X6_back : AF := .inl fl_X6_back
set_option maxRecDepth 20000 in
theorem b_X6_back (l : Launch) (G : AG) : am_B l G 4 cX6_back RX6 am_tb P_X6_back am_rI fl_X6_back := by
  intro p e R s m args below meth c cells slots Q CX as h r q
  unfold fl_X6_back at q
  split at q
  · exact am_run_ok CX ok_X6_back (K := []) (am_K0 (Wp := am_W p l e R s m args below meth c cells slots G 4 (Q r))) 28 0 _ _ _ q
  · cases q
theorem s_X6_back : ∀ as h x, fl_X6_back as h = some x → (∀ k, (some 6 : Option Nat) = some k → ∃ (j : Nat) (as' : List AV), as = .inr (.inr (.inl (k, j))) :: as') ∧ (am_l0 as).length ≤ 4 := by
  intro as h x q
  unfold fl_X6_back at q
  split at q
  · exact ⟨fun k e => by cases e; exact ⟨_, _, rfl⟩, Nat.le_of_ble_eq_true rfl⟩
  · cases q
theorem M_X6_back (l : Launch) (G : AG) : am_M l G yX6_back cX6_back 4 (some .int) 1 22 (some 6) F_X6_back := am_M_of (f := fl_X6_back) (toR := fun x => (some (.inl x.1), x.2)) (P := P_X6_back) (Rr := am_rI) (own := RX6) (by decide) rfl (fun _ _ => rfl) s_X6_back am_wrI am_rkI pf_RX6 pk_RX6 ps_RX6 (List.forall_mem_cons.mpr ⟨cv_RX6_57 l G (by decide) (by decide), (List.forall_mem_cons.mpr ⟨cv_RX6_70 l G (by decide) (by decide), (List.forall_mem_cons.mpr ⟨cv_RX6_160 l G (by decide) (by decide), (fun _ q => by cases q)⟩)⟩)⟩) (fun _ q => by cases q) (fun _ q => by cases q) (b_X6_back l G)
theorem cv_RX6_173 (l : Launch) (G : AG) {fr lo : Nat} (h1 : 0 + 1 ≤ fr) (h2 : 8 + (3 + 11) + 0 ≤ lo) : am_cvOK l G RX6 fr lo (173, 3, F_X1_holds) := ⟨yX1_holds, cX1_holds, 3, (some .boolean), 0, 0, 1, RX1, M_X1_holds l G, ⟨(am_tb_mem (wd_8 _ (List.mem_of_getElem? (i := 24) rfl))), (am_tb_mem (wd_7 _ (List.mem_of_getElem? (i := 10) rfl))), (am_tb_mem (wd_7 _ (List.mem_of_getElem? (i := 11) rfl))), (am_tb_mem (wd_1 _ (List.mem_of_getElem? (i := 20) rfl))), (am_tb_mem (wd_7 _ (List.mem_of_getElem? (i := 12) rfl)))⟩, ⟨rfl, by decide, by decide, by decide +kernel⟩, Or.inl ⟨by decide, rfl⟩, h1, h2⟩
theorem cv_RX6_176 (l : Launch) (G : AG) {fr lo : Nat} (h1 : 1 + 1 ≤ fr) (h2 : 8 + (2 + 11) + 21 ≤ lo) : am_cvOK l G RX6 fr lo (176, 2, F_X0_wearOnce) := ⟨yX0_wearOnce, cX0_wearOnce, 2, none, 1, 21, 0, RX0, M_X0_wearOnce l G, ⟨(am_tb_mem (wd_8 _ (List.mem_of_getElem? (i := 25) rfl))), (am_tb_mem (wd_8 _ (List.mem_of_getElem? (i := 26) rfl))), (am_tb_mem (wd_8 _ (List.mem_of_getElem? (i := 27) rfl))), (am_tb_mem (wd_1 _ (List.mem_of_getElem? (i := 21) rfl))), (am_tb_mem (wd_8 _ (List.mem_of_getElem? (i := 28) rfl)))⟩, ⟨rfl, by decide, by decide, by decide +kernel⟩, Or.inl ⟨by decide, rfl⟩, h1, h2⟩
def C_X6_use : List AC := [(0, .aload_n 0, 1, []), (1, .getfield 10, 4, []), (4, .iload_n 1, 5, []), (5, .invokevirtual 139, 8, []), (8, .ifCond .eq 14, 11, [22]), (11, .aload_n 0, 12, []), (12, .getfield 10, 15, []), (15, .iload_n 2, 16, []), (16, .invokevirtual 70, 19, []), (19, .ifCond .ne 10, 22, [29]), (22, .aload_n 0, 23, []), (23, .ldc 56, 25, []), (25, .invokevirtual 57, 28, []), (28, .ireturn, 29, []), (29, .aload_n 0, 30, []), (30, .getfield 10, 33, []), (33, .getfield 142, 36, []), (36, .iload_n 1, 37, []), (37, .aaload, 38, []), (38, .astore_n 3, 39, []), (39, .aload_n 0, 40, []), (40, .getfield 10, 43, []), (43, .iload_n 1, 44, []), (44, .iload_n 2, 45, []), (45, .invokevirtual 173, 48, []), (48, .ifCond .eq 18, 51, [66]), (51, .aload_n 0, 52, []), (52, .getfield 10, 55, []), (55, .iload_n 2, 56, []), (56, .aload_n 3, 57, []), (57, .getfield 146, 60, []), (60, .invokevirtual 121, 63, []), (63, .ifCond .ne 10, 66, [73]), (66, .aload_n 0, 67, []), (67, .ldc 163, 69, []), (69, .invokevirtual 57, 72, []), (72, .ireturn, 73, []), (73, .aload_n 3, 74, []), (74, .aload_n 0, 75, []), (75, .getfield 10, 78, []), (78, .iload_n 2, 79, []), (79, .aload_n 3, 80, []), (80, .getfield 146, 83, []), (83, .invokevirtual 125, 86, []), (86, .putfield 146, 89, []), (89, .aload_n 0, 90, []), (90, .getfield 10, 93, []), (93, .getfield 73, 96, []), (96, .iload_n 2, 97, []), (97, .aaload, 98, []), (98, .aload_n 0, 99, []), (99, .getfield 10, 102, []), (102, .getfield 107, 105, []), (105, .invokevirtual 176, 108, []), (108, .aload_n 3, 109, []), (109, .getfield 146, 112, []), (112, .ireturn, 113, [])]
theorem ok_X6_use : ∀ x ∈ C_X6_use, am_ok cX6_use 4 x = true := by decide +kernel
noncomputable def P_X6_use : AP := (PF_RX6, PK_RX6, PS_RX6, [(57, 2, F_X6_tell), (70, 2, F_X1_hasHandle), (121, 3, F_X1_opensIn), (125, 3, F_X1_ledTo), (139, 2, F_X1_hasMember), (173, 3, F_X1_holds), (176, 2, F_X0_wearOnce)], [], [])
noncomputable def g_X6_use_66  (h : HP) : Option (Int32 × HP) := (f_X6_tell ((-1000000005)) h).bind (fun q_1 => some (q_1.1, q_1.2))
def pk_X6_use_66 (k : HP → Option (Int32 × HP)) : List AV → List AV → HP → Option (Int32 × HP) := fun L st h => match L, st with
  | [.inr (.inr (.inl (6, 0))), .inl _, .inl _, .inr (.inr (.inl _))], [] => k h
  | _, _ => none
theorem pk_X6_use_66_ok {Wp : List AV → List AV → HP → Prop} {r : (Int32 × HP)} {k : HP → Option (Int32 × HP)} (hk : ∀ (w1 : Int32) (w2 : Int32) (w3 : Nat × Nat) (h : HP), k h = some r → Wp [.inr (.inr (.inl (6, 0))), .inl w1, .inl w2, .inr (.inr (.inl w3))] [] h) : ∀ L st h, pk_X6_use_66 k L st h = some r → Wp L st h := by
  intro L st h q
  unfold pk_X6_use_66 at q
  split at q
  · exact hk _ _ _ _ q
  · cases q
noncomputable def g_X6_use_22  (h : HP) : Option (Int32 × HP) := (f_X6_tell ((-1000000001)) h).bind (fun q_1 => some (q_1.1, q_1.2))
def pk_X6_use_22 (k : HP → Option (Int32 × HP)) : List AV → List AV → HP → Option (Int32 × HP) := fun L st h => match L, st with
  | [.inr (.inr (.inl (6, 0))), .inl _, .inl _, .inr (.inr (.inr ()))], [] => k h
  | _, _ => none
theorem pk_X6_use_22_ok {Wp : List AV → List AV → HP → Prop} {r : (Int32 × HP)} {k : HP → Option (Int32 × HP)} (hk : ∀ (w1 : Int32) (w2 : Int32) (h : HP), k h = some r → Wp [.inr (.inr (.inl (6, 0))), .inl w1, .inl w2, .inr (.inr (.inr ()))] [] h) : ∀ L st h, pk_X6_use_22 k L st h = some r → Wp L st h := by
  intro L st h q
  unfold pk_X6_use_22 at q
  split at q
  · exact hk _ _ _ q
  · cases q
noncomputable def f_X6_use (a1 : Int32) (a2 : Int32) (h : HP) : Option (Int32 × HP) := (f_X1_hasMember 0 a1 h).bind (fun q_1 => if q_1.1 = (0 : Int32) then (g_X6_use_22 q_1.2) else ((f_X1_hasHandle 0 a2 q_1.2).bind (fun q_2 => if q_2.1 = (0 : Int32) then (g_X6_use_22 q_2.2) else ((am_ix a1 6).bind (fun k_3 => (f_X1_holds 0 a1 a2 q_2.2).bind (fun q_4 => if q_4.1 = (0 : Int32) then (g_X6_use_66 q_4.2) else ((f_X1_opensIn 0 a2 (h_rI q_4.2 2 (6 * 0 + k_3) 0) q_4.2).bind (fun q_5 => if q_5.1 = (0 : Int32) then (g_X6_use_66 q_5.2) else ((f_X1_ledTo 0 a2 (h_rI q_5.2 2 (6 * 0 + k_3) 0) q_5.2).bind (fun q_6 => (am_ix a2 8).bind (fun k_7 => (f_X0_wearOnce (8 * 0 + k_7) (h_rI (h_wI q_6.2 2 (6 * 0 + k_3) 0 q_6.1) 1 0 0) (h_wI q_6.2 2 (6 * 0 + k_3) 0 q_6.1)).bind (fun q_8 => some (h_rI q_8 2 (6 * 0 + k_3) 0, q_8)))))))))))))
noncomputable def fl_X6_use : List AV → HP → Option (Int32 × HP) := fun as h => match as with
  | [.inr (.inr (.inl (6, 0))), .inl a1, .inl a2] => f_X6_use a1 a2 h
  | _ => none
noncomputable def F_X6_use : AF := .inl fl_X6_use
set_option maxRecDepth 20000 in
theorem w_X6_use_66 {p : Program} {l : Launch} {e : Env} {R : Room} {s : State} {m : MethodId} {args : Array Value} {below : List Frame} {meth : Method} {c : Code} {cells slots : Nat} {G : AG} {Q : (Int32 × HP) → State → Prop} (CX : am_X p l e R s m args below meth c cells slots G 4 cX6_use RX6 am_tb P_X6_use am_rI Q) {r : (Int32 × HP)} : ∀ (w1 : Int32) (w2 : Int32) (w3 : Nat × Nat) (h : HP), g_X6_use_66 h = some r → am_W p l e R s m args below meth c cells slots G 4 (Q r) 66 [.inr (.inr (.inl (6, 0))), .inl w1, .inl w2, .inr (.inr (.inl w3))] [] h := by
  intro w1 w2 w3 h q
  exact am_run_ok CX ok_X6_use (K := []) (am_K0 (Wp := am_W p l e R s m args below meth c cells slots G 4 (Q r))) 7 66 _ _ _ q
set_option maxRecDepth 20000 in
theorem w_X6_use_22 {p : Program} {l : Launch} {e : Env} {R : Room} {s : State} {m : MethodId} {args : Array Value} {below : List Frame} {meth : Method} {c : Code} {cells slots : Nat} {G : AG} {Q : (Int32 × HP) → State → Prop} (CX : am_X p l e R s m args below meth c cells slots G 4 cX6_use RX6 am_tb P_X6_use am_rI Q) {r : (Int32 × HP)} : ∀ (w1 : Int32) (w2 : Int32) (h : HP), g_X6_use_22 h = some r → am_W p l e R s m args below meth c cells slots G 4 (Q r) 22 [.inr (.inr (.inl (6, 0))), .inl w1, .inl w2, .inr (.inr (.inr ()))] [] h := by
  intro w1 w2 h q
  exact am_run_ok CX ok_X6_use (K := []) (am_K0 (Wp := am_W p l e R s m args below meth c cells slots G 4 (Q r))) 7 22 _ _ _ q
set_option maxRecDepth 20000 in
theorem b_X6_use (l : Launch) (G : AG) : am_B l G 4 cX6_use RX6 am_tb P_X6_use am_rI fl_X6_use := by
  intro p e R s m args below meth c cells slots Q CX as h r q
  unfold fl_X6_use at q
  split at q
  · exact am_run_ok CX ok_X6_use (K := [(22, pk_X6_use_22 (g_X6_use_22)), (66, pk_X6_use_66 (g_X6_use_66))]) (am_K1 (Wp := am_W p l e R s m args below meth c cells slots G 4 (Q r)) (pk_X6_use_22_ok (Wp := am_W p l e R s m args below meth c cells slots G 4 (Q r) 22) (w_X6_use_22 CX)) (am_K1 (Wp := am_W p l e R s m args below meth c cells slots G 4 (Q r)) (pk_X6_use_66_ok (Wp := am_W p l e R s m args below meth c cells slots G 4 (Q r) 66) (w_X6_use_66 CX)) am_K0)) 52 0 _ _ _ q
  · cases q
theorem s_X6_use : ∀ as h x, fl_X6_use as h = some x → (∀ k, (some 6 : Option Nat) = some k → ∃ (j : Nat) (as' : List AV), as = .inr (.inr (.inl (k, j))) :: as') ∧ (am_l0 as).length ≤ 4 := by
  intro as h x q
  unfold fl_X6_use at q
  split at q
  · exact ⟨fun k e => by cases e; exact ⟨_, _, rfl⟩, Nat.le_of_ble_eq_true rfl⟩
  · cases q
theorem M_X6_use (l : Launch) (G : AG) : am_M l G yX6_use cX6_use 4 (some .int) 4 93 (some 6) F_X6_use := am_M_of (f := fl_X6_use) (toR := fun x => (some (.inl x.1), x.2)) (P := P_X6_use) (Rr := am_rI) (own := RX6) (by decide) rfl (fun _ _ => rfl) s_X6_use am_wrI am_rkI pf_RX6 pk_RX6 ps_RX6 (List.forall_mem_cons.mpr ⟨cv_RX6_57 l G (by decide) (by decide), (List.forall_mem_cons.mpr ⟨cv_RX6_70 l G (by decide) (by decide), (List.forall_mem_cons.mpr ⟨cv_RX6_121 l G (by decide) (by decide), (List.forall_mem_cons.mpr ⟨cv_RX6_125 l G (by decide) (by decide), (List.forall_mem_cons.mpr ⟨cv_RX6_139 l G (by decide) (by decide), (List.forall_mem_cons.mpr ⟨cv_RX6_173 l G (by decide) (by decide), (List.forall_mem_cons.mpr ⟨cv_RX6_176 l G (by decide) (by decide), (fun _ q => by cases q)⟩)⟩)⟩)⟩)⟩)⟩)⟩) (fun _ q => by cases q) (fun _ q => by cases q) (b_X6_use l G)
theorem cv_RX6_180 (l : Launch) (G : AG) {fr lo : Nat} (h1 : 2 + 1 ≤ fr) (h2 : 8 + (3 + 11) + 47 ≤ lo) : am_cvOK l G RX6 fr lo (180, 2, F_X1_goOn) := ⟨yX1_goOn, cX1_goOn, 3, none, 2, 47, 1, RX1, M_X1_goOn l G, ⟨(am_tb_mem (wd_8 _ (List.mem_of_getElem? (i := 37) rfl))), (am_tb_mem (wd_8 _ (List.mem_of_getElem? (i := 38) rfl))), (am_tb_mem (wd_8 _ (List.mem_of_getElem? (i := 39) rfl))), (am_tb_mem (wd_1 _ (List.mem_of_getElem? (i := 20) rfl))), (am_tb_mem (wd_9 _ (List.mem_of_getElem? (i := 0) rfl)))⟩, ⟨rfl, by decide, by decide, by decide +kernel⟩, Or.inl ⟨by decide, rfl⟩, h1, h2⟩
theorem cv_RX6_183 (l : Launch) (G : AG) {fr lo : Nat} (h1 : 0 + 1 ≤ fr) (h2 : 8 + (3 + 11) + 0 ≤ lo) : am_cvOK l G RX6 fr lo (183, 1, F_X1_allFines) := ⟨yX1_allFines, cX1_allFines, 3, (some .int), 0, 0, 1, RX1, M_X1_allFines l G, ⟨(am_tb_mem (wd_9 _ (List.mem_of_getElem? (i := 10) rfl))), (am_tb_mem (wd_9 _ (List.mem_of_getElem? (i := 11) rfl))), (am_tb_mem (wd_9 _ (List.mem_of_getElem? (i := 12) rfl))), (am_tb_mem (wd_1 _ (List.mem_of_getElem? (i := 20) rfl))), (am_tb_mem (wd_9 _ (List.mem_of_getElem? (i := 13) rfl)))⟩, ⟨rfl, by decide, by decide, by decide +kernel⟩, Or.inl ⟨by decide, rfl⟩, h1, h2⟩
def C_X6_days : List AC := [(0, .iload_n 1, 1, []), (1, .iconst 1, 2, []), (2, .if_icmp .lt 9, 5, [11]), (5, .iload_n 1, 6, []), (6, .bipush 60, 8, []), (8, .if_icmp .le 10, 11, [18]), (11, .aload_n 0, 12, []), (12, .ldc 56, 14, []), (14, .invokevirtual 57, 17, []), (17, .ireturn, 18, []), (18, .aload_n 0, 19, []), (19, .getfield 10, 22, []), (22, .getfield 107, 25, []), (25, .iload_n 1, 26, []), (26, .iadd, 27, []), (27, .sipush 9999, 30, []), (30, .if_icmp .le 10, 33, [40]), (33, .aload_n 0, 34, []), (34, .ldc 163, 36, []), (36, .invokevirtual 57, 39, []), (39, .ireturn, 40, []), (40, .aload_n 0, 41, []), (41, .getfield 10, 44, []), (44, .iload_n 1, 45, []), (45, .invokevirtual 180, 48, []), (48, .aload_n 0, 49, []), (49, .getfield 10, 52, []), (52, .invokevirtual 183, 55, []), (55, .ireturn, 56, [])]
theorem ok_X6_days : ∀ x ∈ C_X6_days, am_ok cX6_days 2 x = true := by decide +kernel
noncomputable def P_X6_days : AP := (PF_RX6, PK_RX6, PS_RX6, [(57, 2, F_X6_tell), (180, 2, F_X1_goOn), (183, 1, F_X1_allFines)], [], [])
noncomputable def g_X6_days_11  (h : HP) : Option (Int32 × HP) := (f_X6_tell ((-1000000001)) h).bind (fun q_1 => some (q_1.1, q_1.2))
def pk_X6_days_11 (k : HP → Option (Int32 × HP)) : List AV → List AV → HP → Option (Int32 × HP) := fun L st h => match L, st with
  | [.inr (.inr (.inl (6, 0))), .inl _], [] => k h
  | _, _ => none
theorem pk_X6_days_11_ok {Wp : List AV → List AV → HP → Prop} {r : (Int32 × HP)} {k : HP → Option (Int32 × HP)} (hk : ∀ (w1 : Int32) (h : HP), k h = some r → Wp [.inr (.inr (.inl (6, 0))), .inl w1] [] h) : ∀ L st h, pk_X6_days_11 k L st h = some r → Wp L st h := by
  intro L st h q
  unfold pk_X6_days_11 at q
  split at q
  · exact hk _ _ q
  · cases q
noncomputable def f_X6_days (a1 : Int32) (h : HP) : Option (Int32 × HP) := if a1 < (1 : Int32) then (g_X6_days_11 h) else (if a1 ≤ (60 : Int32) then (if (h_rI h 1 0 0) + a1 ≤ (9999 : Int32) then ((f_X1_goOn 0 a1 h).bind (fun q_1 => (f_X1_allFines 0 q_1).bind (fun q_2 => some (q_2.1, q_2.2)))) else ((f_X6_tell ((-1000000005)) h).bind (fun q_3 => some (q_3.1, q_3.2)))) else (g_X6_days_11 h))
noncomputable def fl_X6_days : List AV → HP → Option (Int32 × HP) := fun as h => match as with
  | [.inr (.inr (.inl (6, 0))), .inl a1] => f_X6_days a1 h
  | _ => none
noncomputable def F_X6_days : AF := .inl fl_X6_days
set_option maxRecDepth 20000 in
theorem w_X6_days_11 {p : Program} {l : Launch} {e : Env} {R : Room} {s : State} {m : MethodId} {args : Array Value} {below : List Frame} {meth : Method} {c : Code} {cells slots : Nat} {G : AG} {Q : (Int32 × HP) → State → Prop} (CX : am_X p l e R s m args below meth c cells slots G 2 cX6_days RX6 am_tb P_X6_days am_rI Q) {r : (Int32 × HP)} : ∀ (w1 : Int32) (h : HP), g_X6_days_11 h = some r → am_W p l e R s m args below meth c cells slots G 2 (Q r) 11 [.inr (.inr (.inl (6, 0))), .inl w1] [] h := by
  intro w1 h q
  exact am_run_ok CX ok_X6_days (K := []) (am_K0 (Wp := am_W p l e R s m args below meth c cells slots G 2 (Q r))) 7 11 _ _ _ q
set_option maxRecDepth 20000 in
theorem b_X6_days (l : Launch) (G : AG) : am_B l G 2 cX6_days RX6 am_tb P_X6_days am_rI fl_X6_days := by
  intro p e R s m args below meth c cells slots Q CX as h r q
  unfold fl_X6_days at q
  split at q
  · exact am_run_ok CX ok_X6_days (K := [(11, pk_X6_days_11 (g_X6_days_11))]) (am_K1 (Wp := am_W p l e R s m args below meth c cells slots G 2 (Q r)) (pk_X6_days_11_ok (Wp := am_W p l e R s m args below meth c cells slots G 2 (Q r) 11) (w_X6_days_11 CX)) am_K0) 24 0 _ _ _ q
  · cases q
theorem s_X6_days : ∀ as h x, fl_X6_days as h = some x → (∀ k, (some 6 : Option Nat) = some k → ∃ (j : Nat) (as' : List AV), as = .inr (.inr (.inl (k, j))) :: as') ∧ (am_l0 as).length ≤ 2 := by
  intro as h x q
  unfold fl_X6_days at q
  split at q
  · exact ⟨fun k e => by cases e; exact ⟨_, _, rfl⟩, Nat.le_of_ble_eq_true rfl⟩
  · cases q
theorem M_X6_days (l : Launch) (G : AG) : am_M l G yX6_days cX6_days 2 (some .int) 3 69 (some 6) F_X6_days := am_M_of (f := fl_X6_days) (toR := fun x => (some (.inl x.1), x.2)) (P := P_X6_days) (Rr := am_rI) (own := RX6) (by decide) rfl (fun _ _ => rfl) s_X6_days am_wrI am_rkI pf_RX6 pk_RX6 ps_RX6 (List.forall_mem_cons.mpr ⟨cv_RX6_57 l G (by decide) (by decide), (List.forall_mem_cons.mpr ⟨cv_RX6_180 l G (by decide) (by decide), (List.forall_mem_cons.mpr ⟨cv_RX6_183 l G (by decide) (by decide), (fun _ q => by cases q)⟩)⟩)⟩) (fun _ q => by cases q) (fun _ q => by cases q) (b_X6_days l G)
theorem cv_RX6_187 (l : Launch) (G : AG) {fr lo : Nat} (h1 : 1 + 1 ≤ fr) (h2 : 8 + (3 + 11) + 20 ≤ lo) : am_cvOK l G RX6 fr lo (187, 1, F_X1_allLent) := ⟨yX1_allLent, cX1_allLent, 3, (some .int), 1, 20, 1, RX1, M_X1_allLent l G, ⟨(am_tb_mem (wd_9 _ (List.mem_of_getElem? (i := 18) rfl))), (am_tb_mem (wd_9 _ (List.mem_of_getElem? (i := 19) rfl))), (am_tb_mem (wd_9 _ (List.mem_of_getElem? (i := 20) rfl))), (am_tb_mem (wd_1 _ (List.mem_of_getElem? (i := 20) rfl))), (am_tb_mem (wd_9 _ (List.mem_of_getElem? (i := 21) rfl)))⟩, ⟨rfl, by decide, by decide, by decide +kernel⟩, Or.inl ⟨by decide, rfl⟩, h1, h2⟩
theorem cv_RX6_190 (l : Launch) (G : AG) {fr lo : Nat} (h1 : 1 + 1 ≤ fr) (h2 : 8 + (3 + 11) + 21 ≤ lo) : am_cvOK l G RX6 fr lo (190, 1, F_X1_allLate) := ⟨yX1_allLate, cX1_allLate, 3, (some .int), 1, 21, 1, RX1, M_X1_allLate l G, ⟨(am_tb_mem (wd_9 _ (List.mem_of_getElem? (i := 22) rfl))), (am_tb_mem (wd_9 _ (List.mem_of_getElem? (i := 23) rfl))), (am_tb_mem (wd_9 _ (List.mem_of_getElem? (i := 24) rfl))), (am_tb_mem (wd_1 _ (List.mem_of_getElem? (i := 20) rfl))), (am_tb_mem (wd_9 _ (List.mem_of_getElem? (i := 25) rfl)))⟩, ⟨rfl, by decide, by decide, by decide +kernel⟩, Or.inl ⟨by decide, rfl⟩, h1, h2⟩
theorem cv_RX6_193 (l : Launch) (G : AG) {fr lo : Nat} (h1 : 0 + 1 ≤ fr) (h2 : 8 + (3 + 11) + 0 ≤ lo) : am_cvOK l G RX6 fr lo (193, 1, F_X1_allWear) := ⟨yX1_allWear, cX1_allWear, 3, (some .int), 0, 0, 1, RX1, M_X1_allWear l G, ⟨(am_tb_mem (wd_9 _ (List.mem_of_getElem? (i := 27) rfl))), (am_tb_mem (wd_9 _ (List.mem_of_getElem? (i := 28) rfl))), (am_tb_mem (wd_9 _ (List.mem_of_getElem? (i := 29) rfl))), (am_tb_mem (wd_1 _ (List.mem_of_getElem? (i := 20) rfl))), (am_tb_mem (wd_9 _ (List.mem_of_getElem? (i := 30) rfl)))⟩, ⟨rfl, by decide, by decide, by decide +kernel⟩, Or.inl ⟨by decide, rfl⟩, h1, h2⟩
def C_X6_now : List AC := [(0, .iload_n 1, 1, []), (1, .tableswitch 87 0 5 #[39, 47, 55, 63, 71, 79], 40, [88, 40, 48, 56, 64, 72, 80]), (40, .aload_n 0, 41, []), (41, .getfield 10, 44, []), (44, .getfield 107, 47, []), (47, .ireturn, 48, []), (48, .aload_n 0, 49, []), (49, .getfield 10, 52, []), (52, .invokevirtual 183, 55, []), (55, .ireturn, 56, []), (56, .aload_n 0, 57, []), (57, .getfield 10, 60, []), (60, .invokevirtual 187, 63, []), (63, .ireturn, 64, []), (64, .aload_n 0, 65, []), (65, .getfield 10, 68, []), (68, .invokevirtual 190, 71, []), (71, .ireturn, 72, []), (72, .aload_n 0, 73, []), (73, .getfield 10, 76, []), (76, .invokevirtual 193, 79, []), (79, .ireturn, 80, []), (80, .aload_n 0, 81, []), (81, .getfield 10, 84, []), (84, .getfield 98, 87, []), (87, .ireturn, 88, []), (88, .aload_n 0, 89, []), (89, .ldc 56, 91, []), (91, .invokevirtual 57, 94, []), (94, .ireturn, 95, [])]
theorem ok_X6_now : ∀ x ∈ C_X6_now, am_ok cX6_now 2 x = true := by decide +kernel
noncomputable def P_X6_now : AP := (PF_RX6, PK_RX6, PS_RX6, [(57, 2, F_X6_tell), (183, 1, F_X1_allFines), (187, 1, F_X1_allLent), (190, 1, F_X1_allLate), (193, 1, F_X1_allWear)], [], [])
noncomputable def f_X6_now (a1 : Int32) (h : HP) : Option (Int32 × HP) := if a1 = 0 then (some (h_rI h 1 0 0, h)) else (if a1 = 1 then ((f_X1_allFines 0 h).bind (fun q_1 => some (q_1.1, q_1.2))) else (if a1 = 2 then ((f_X1_allLent 0 h).bind (fun q_2 => some (q_2.1, q_2.2))) else (if a1 = 3 then ((f_X1_allLate 0 h).bind (fun q_3 => some (q_3.1, q_3.2))) else (if a1 = 4 then ((f_X1_allWear 0 h).bind (fun q_4 => some (q_4.1, q_4.2))) else (if a1 = 5 then (some (h_rI h 1 0 1, h)) else ((f_X6_tell ((-1000000001)) h).bind (fun q_5 => some (q_5.1, q_5.2))))))))
noncomputable def fl_X6_now : List AV → HP → Option (Int32 × HP) := fun as h => match as with
  | [.inr (.inr (.inl (6, 0))), .inl a1] => f_X6_now a1 h
  | _ => none
noncomputable def F_X6_now : AF := .inl fl_X6_now
set_option maxRecDepth 20000 in
theorem b_X6_now (l : Launch) (G : AG) : am_B l G 2 cX6_now RX6 am_tb P_X6_now am_rI fl_X6_now := by
  intro p e R s m args below meth c cells slots Q CX as h r q
  unfold fl_X6_now at q
  split at q
  · exact am_run_ok CX ok_X6_now (K := []) (am_K0 (Wp := am_W p l e R s m args below meth c cells slots G 2 (Q r))) 9 0 _ _ _ q
  · cases q
theorem s_X6_now : ∀ as h x, fl_X6_now as h = some x → (∀ k, (some 6 : Option Nat) = some k → ∃ (j : Nat) (as' : List AV), as = .inr (.inr (.inl (k, j))) :: as') ∧ (am_l0 as).length ≤ 2 := by
  intro as h x q
  unfold fl_X6_now at q
  split at q
  · exact ⟨fun k e => by cases e; exact ⟨_, _, rfl⟩, Nat.le_of_ble_eq_true rfl⟩
  · cases q
theorem M_X6_now (l : Launch) (G : AG) : am_M l G yX6_now cX6_now 2 (some .int) 2 43 (some 6) F_X6_now := am_M_of (f := fl_X6_now) (toR := fun x => (some (.inl x.1), x.2)) (P := P_X6_now) (Rr := am_rI) (own := RX6) (by decide) rfl (fun _ _ => rfl) s_X6_now am_wrI am_rkI pf_RX6 pk_RX6 ps_RX6 (List.forall_mem_cons.mpr ⟨cv_RX6_57 l G (by decide) (by decide), (List.forall_mem_cons.mpr ⟨cv_RX6_183 l G (by decide) (by decide), (List.forall_mem_cons.mpr ⟨cv_RX6_187 l G (by decide) (by decide), (List.forall_mem_cons.mpr ⟨cv_RX6_190 l G (by decide) (by decide), (List.forall_mem_cons.mpr ⟨cv_RX6_193 l G (by decide) (by decide), (fun _ q => by cases q)⟩)⟩)⟩)⟩)⟩) (fun _ q => by cases q) (fun _ q => by cases q) (b_X6_now l G)
theorem cv_RX6_196 (l : Launch) (G : AG) {fr lo : Nat} (h1 : 1 + 1 ≤ fr) (h2 : 8 + (6 + 11) + 22 ≤ lo) : am_cvOK l G RX6 fr lo (196, 4, F_X1_finesAhead) := ⟨yX1_finesAhead, cX1_finesAhead, 6, (some .int), 1, 22, 1, RX1, M_X1_finesAhead l G, ⟨(am_tb_mem (wd_9 _ (List.mem_of_getElem? (i := 35) rfl))), (am_tb_mem (wd_9 _ (List.mem_of_getElem? (i := 2) rfl))), (am_tb_mem (wd_9 _ (List.mem_of_getElem? (i := 3) rfl))), (am_tb_mem (wd_1 _ (List.mem_of_getElem? (i := 20) rfl))), (am_tb_mem (wd_9 _ (List.mem_of_getElem? (i := 4) rfl)))⟩, ⟨rfl, by decide, by decide, by decide +kernel⟩, Or.inl ⟨by decide, rfl⟩, h1, h2⟩
theorem cv_RX6_200 (l : Launch) (G : AG) {fr lo : Nat} (h1 : 1 + 1 ≤ fr) (h2 : 8 + (3 + 11) + 21 ≤ lo) : am_cvOK l G RX6 fr lo (200, 2, F_X1_becomes) := ⟨yX1_becomes, cX1_becomes, 3, none, 1, 21, 1, RX1, M_X1_becomes l G, ⟨(am_tb_mem (wd_9 _ (List.mem_of_getElem? (i := 36) rfl))), (am_tb_mem (wd_9 _ (List.mem_of_getElem? (i := 37) rfl))), (am_tb_mem (wd_9 _ (List.mem_of_getElem? (i := 38) rfl))), (am_tb_mem (wd_1 _ (List.mem_of_getElem? (i := 20) rfl))), (am_tb_mem (wd_9 _ (List.mem_of_getElem? (i := 39) rfl)))⟩, ⟨rfl, by decide, by decide, by decide +kernel⟩, Or.inl ⟨by decide, rfl⟩, h1, h2⟩
theorem cv_RX6_204 (l : Launch) (G : AG) {fr lo : Nat} (h1 : 4 + 1 ≤ fr) (h2 : 8 + (5 + 11) + 97 ≤ lo) : am_cvOK l G RX6 fr lo (204, 2, F_X1_reachOf) := ⟨yX1_reachOf, cX1_reachOf, 5, (some .int), 4, 97, 1, RX1, M_X1_reachOf l G, ⟨(am_tb_mem (wd_10 _ (List.mem_of_getElem? (i := 8) rfl))), (am_tb_mem (wd_10 _ (List.mem_of_getElem? (i := 9) rfl))), (am_tb_mem (wd_10 _ (List.mem_of_getElem? (i := 10) rfl))), (am_tb_mem (wd_1 _ (List.mem_of_getElem? (i := 20) rfl))), (am_tb_mem (wd_10 _ (List.mem_of_getElem? (i := 11) rfl)))⟩, ⟨rfl, by decide, by decide, by decide +kernel⟩, Or.inl ⟨by decide, rfl⟩, h1, h2⟩
def C_X6_on : List AC := [(0, .aload_n 0, 1, []), (1, .getfield 10, 4, []), (4, .iload_n 1, 5, []), (5, .invokevirtual 139, 8, []), (8, .ifCond .eq 21, 11, [29]), (11, .iload_n 2, 12, []), (12, .bipush 60, 14, []), (14, .invokestatic 113, 17, []), (17, .ifCond .eq 12, 20, [29]), (20, .iload_n 3, 21, []), (21, .ifCond .lt 8, 24, [29]), (24, .iload_n 3, 25, []), (25, .iconst 1, 26, []), (26, .if_icmp .le 10, 29, [36]), (29, .aload_n 0, 30, []), (30, .ldc 56, 32, []), (32, .invokevirtual 57, 35, []), (35, .ireturn, 36, []), (36, .iload_n 3, 37, []), (37, .ifCond .ne 20, 40, [57]), (40, .aload_n 0, 41, []), (41, .getfield 10, 44, []), (44, .iload_n 1, 45, []), (45, .iload_n 2, 46, []), (46, .aload_n 0, 47, []), (47, .getfield 10, 50, []), (50, .getfield 98, 53, []), (53, .invokevirtual 196, 56, []), (56, .ireturn, 57, []), (57, .aload_n 0, 58, []), (58, .getfield 16, 61, []), (61, .aload_n 0, 62, []), (62, .getfield 10, 65, []), (65, .invokevirtual 200, 68, []), (68, .aload_n 0, 69, []), (69, .getfield 16, 72, []), (72, .iload_n 2, 73, []), (73, .invokevirtual 180, 76, []), (76, .aload_n 0, 77, []), (77, .getfield 16, 80, []), (80, .iload_n 1, 81, []), (81, .invokevirtual 204, 84, []), (84, .ireturn, 85, [])]
theorem ok_X6_on : ∀ x ∈ C_X6_on, am_ok cX6_on 4 x = true := by decide +kernel
noncomputable def P_X6_on : AP := (PF_RX6, PK_RX6, PS_RX6, [(57, 2, F_X6_tell), (139, 2, F_X1_hasMember), (180, 2, F_X1_goOn), (196, 4, F_X1_finesAhead), (200, 2, F_X1_becomes), (204, 2, F_X1_reachOf)], [(113, 2, F_X6_isUpTo)], [])
noncomputable def g_X6_on_29  (h : HP) : Option (Int32 × HP) := (f_X6_tell ((-1000000001)) h).bind (fun q_1 => some (q_1.1, q_1.2))
def pk_X6_on_29 (k : HP → Option (Int32 × HP)) : List AV → List AV → HP → Option (Int32 × HP) := fun L st h => match L, st with
  | [.inr (.inr (.inl (6, 0))), .inl _, .inl _, .inl _], [] => k h
  | _, _ => none
theorem pk_X6_on_29_ok {Wp : List AV → List AV → HP → Prop} {r : (Int32 × HP)} {k : HP → Option (Int32 × HP)} (hk : ∀ (w1 : Int32) (w2 : Int32) (w3 : Int32) (h : HP), k h = some r → Wp [.inr (.inr (.inl (6, 0))), .inl w1, .inl w2, .inl w3] [] h) : ∀ L st h, pk_X6_on_29 k L st h = some r → Wp L st h := by
  intro L st h q
  unfold pk_X6_on_29 at q
  split at q
  · exact hk _ _ _ _ q
  · cases q
noncomputable def f_X6_on (a1 : Int32) (a2 : Int32) (a3 : Int32) (h : HP) : Option (Int32 × HP) := (f_X1_hasMember 0 a1 h).bind (fun q_1 => if q_1.1 = (0 : Int32) then (g_X6_on_29 q_1.2) else ((f_X6_isUpTo a2 60 q_1.2).bind (fun q_2 => if q_2.1 = (0 : Int32) then (g_X6_on_29 q_2.2) else (if a3 < (0 : Int32) then (g_X6_on_29 q_2.2) else (if a3 ≤ (1 : Int32) then (if a3 = (0 : Int32) then ((f_X1_finesAhead 0 a1 a2 (h_rI q_2.2 1 0 1) q_2.2).bind (fun q_6 => some (q_6.1, q_6.2))) else ((f_X1_becomes 1 0 q_2.2).bind (fun q_3 => (f_X1_goOn 1 a2 q_3).bind (fun q_4 => (f_X1_reachOf 1 a1 q_4).bind (fun q_5 => some (q_5.1, q_5.2)))))) else (g_X6_on_29 q_2.2))))))
noncomputable def fl_X6_on : List AV → HP → Option (Int32 × HP) := fun as h => match as with
  | [.inr (.inr (.inl (6, 0))), .inl a1, .inl a2, .inl a3] => f_X6_on a1 a2 a3 h
  | _ => none
noncomputable def F_X6_on : AF := .inl fl_X6_on
set_option maxRecDepth 20000 in
theorem w_X6_on_29 {p : Program} {l : Launch} {e : Env} {R : Room} {s : State} {m : MethodId} {args : Array Value} {below : List Frame} {meth : Method} {c : Code} {cells slots : Nat} {G : AG} {Q : (Int32 × HP) → State → Prop} (CX : am_X p l e R s m args below meth c cells slots G 4 cX6_on RX6 am_tb P_X6_on am_rI Q) {r : (Int32 × HP)} : ∀ (w1 : Int32) (w2 : Int32) (w3 : Int32) (h : HP), g_X6_on_29 h = some r → am_W p l e R s m args below meth c cells slots G 4 (Q r) 29 [.inr (.inr (.inl (6, 0))), .inl w1, .inl w2, .inl w3] [] h := by
  intro w1 w2 w3 h q
  exact am_run_ok CX ok_X6_on (K := []) (am_K0 (Wp := am_W p l e R s m args below meth c cells slots G 4 (Q r))) 7 29 _ _ _ q
set_option maxRecDepth 20000 in
theorem b_X6_on (l : Launch) (G : AG) : am_B l G 4 cX6_on RX6 am_tb P_X6_on am_rI fl_X6_on := by
  intro p e R s m args below meth c cells slots Q CX as h r q
  unfold fl_X6_on at q
  split at q
  · exact am_run_ok CX ok_X6_on (K := [(29, pk_X6_on_29 (g_X6_on_29))]) (am_K1 (Wp := am_W p l e R s m args below meth c cells slots G 4 (Q r)) (pk_X6_on_29_ok (Wp := am_W p l e R s m args below meth c cells slots G 4 (Q r) 29) (w_X6_on_29 CX)) am_K0) 33 0 _ _ _ q
  · cases q
theorem s_X6_on : ∀ as h x, fl_X6_on as h = some x → (∀ k, (some 6 : Option Nat) = some k → ∃ (j : Nat) (as' : List AV), as = .inr (.inr (.inl (k, j))) :: as') ∧ (am_l0 as).length ≤ 4 := by
  intro as h x q
  unfold fl_X6_on at q
  split at q
  · exact ⟨fun k e => by cases e; exact ⟨_, _, rfl⟩, Nat.le_of_ble_eq_true rfl⟩
  · cases q
theorem M_X6_on (l : Launch) (G : AG) : am_M l G yX6_on cX6_on 4 (some .int) 5 121 (some 6) F_X6_on := am_M_of (f := fl_X6_on) (toR := fun x => (some (.inl x.1), x.2)) (P := P_X6_on) (Rr := am_rI) (own := RX6) (by decide) rfl (fun _ _ => rfl) s_X6_on am_wrI am_rkI pf_RX6 pk_RX6 ps_RX6 (List.forall_mem_cons.mpr ⟨cv_RX6_57 l G (by decide) (by decide), (List.forall_mem_cons.mpr ⟨cv_RX6_139 l G (by decide) (by decide), (List.forall_mem_cons.mpr ⟨cv_RX6_180 l G (by decide) (by decide), (List.forall_mem_cons.mpr ⟨cv_RX6_196 l G (by decide) (by decide), (List.forall_mem_cons.mpr ⟨cv_RX6_200 l G (by decide) (by decide), (List.forall_mem_cons.mpr ⟨cv_RX6_204 l G (by decide) (by decide), (fun _ q => by cases q)⟩)⟩)⟩)⟩)⟩)⟩) (List.forall_mem_cons.mpr ⟨cs_RX6_113 l G (by decide) (by decide), (fun _ q => by cases q)⟩) (fun _ q => by cases q) (b_X6_on l G)
theorem cs_RX6_207 (l : Launch) (G : AG) {fr lo : Nat} (h1 : 1 ≤ fr) (h2 : 21 ≤ lo) : am_csOK l G RX6 fr lo (207, 2, F_J9_max_7cf53) := Or.inr (Or.inl ⟨rfl, ⟨(am_tb_mem (wd_10 _ (List.mem_of_getElem? (i := 20) rfl))), (am_tb_mem (wd_9 _ (List.mem_of_getElem? (i := 7) rfl))), (am_tb_mem (wd_1 _ (List.mem_of_getElem? (i := 28) rfl))), (am_tb_mem (wd_9 _ (List.mem_of_getElem? (i := 8) rfl)))⟩, h1, h2⟩)
def C_X6_late : List AC := [(0, .aload_n 0, 1, []), (1, .getfield 10, 4, []), (4, .iload_n 1, 5, []), (5, .invokevirtual 70, 8, []), (8, .ifCond .ne 10, 11, [18]), (11, .aload_n 0, 12, []), (12, .ldc 56, 14, []), (14, .invokevirtual 57, 17, []), (17, .ireturn, 18, []), (18, .aload_n 0, 19, []), (19, .getfield 10, 22, []), (22, .getfield 73, 25, []), (25, .iload_n 1, 26, []), (26, .aaload, 27, []), (27, .astore_n 2, 28, []), (28, .iconst 0, 29, []), (29, .aload_n 0, 30, []), (30, .getfield 10, 33, []), (33, .getfield 98, 36, []), (36, .aload_n 2, 37, []), (37, .getfield 95, 40, []), (40, .isub, 41, []), (41, .iconst 1, 42, []), (42, .iadd, 43, []), (43, .invokestatic 207, 46, []), (46, .istore_n 3, 47, []), (47, .aload_n 2, 48, []), (48, .invokevirtual 160, 51, []), (51, .ifCond .eq 13, 54, [64]), (54, .iload_n 3, 55, []), (55, .bipush 60, 57, []), (57, .if_icmp .gt 7, 60, [64]), (60, .iload_n 3, 61, []), (61, .goto 9, 64, [70]), (64, .aload_n 0, 65, []), (65, .ldc 124, 67, []), (67, .invokevirtual 57, 70, []), (70, .ireturn, 71, [])]
theorem ok_X6_late : ∀ x ∈ C_X6_late, am_ok cX6_late 4 x = true := by decide +kernel
noncomputable def P_X6_late : AP := (PF_RX6, PK_RX6, PS_RX6, [(57, 2, F_X6_tell), (70, 2, F_X1_hasHandle), (160, 1, F_X0_isLent)], [(207, 2, F_J9_max_7cf53)], [])
noncomputable def g_X6_late_64  (h : HP) : Option (Int32 × HP) := (f_X6_tell ((-1000000004)) h).bind (fun q_1 => some (q_1.1, q_1.2))
def pk_X6_late_64 (k : HP → Option (Int32 × HP)) : List AV → List AV → HP → Option (Int32 × HP) := fun L st h => match L, st with
  | [.inr (.inr (.inl (6, 0))), .inl _, .inr (.inr (.inl _)), .inl _], [] => k h
  | _, _ => none
theorem pk_X6_late_64_ok {Wp : List AV → List AV → HP → Prop} {r : (Int32 × HP)} {k : HP → Option (Int32 × HP)} (hk : ∀ (w1 : Int32) (w2 : Nat × Nat) (w3 : Int32) (h : HP), k h = some r → Wp [.inr (.inr (.inl (6, 0))), .inl w1, .inr (.inr (.inl w2)), .inl w3] [] h) : ∀ L st h, pk_X6_late_64 k L st h = some r → Wp L st h := by
  intro L st h q
  unfold pk_X6_late_64 at q
  split at q
  · exact hk _ _ _ _ q
  · cases q
noncomputable def f_X6_late (a1 : Int32) (h : HP) : Option (Int32 × HP) := (f_X1_hasHandle 0 a1 h).bind (fun q_1 => if q_1.1 = (0 : Int32) then ((f_X6_tell ((-1000000001)) q_1.2).bind (fun q_5 => some (q_5.1, q_5.2))) else ((am_ix a1 8).bind (fun k_2 => (f_J9_max_7cf53 0 (((h_rI q_1.2 1 0 1) - (h_rI q_1.2 0 (8 * 0 + k_2) 5)) + 1) q_1.2).bind (fun q_3 => (f_X0_isLent (8 * 0 + k_2) q_3.2).bind (fun q_4 => if q_4.1 = (0 : Int32) then (g_X6_late_64 q_4.2) else (if (60 : Int32) < q_3.1 then (g_X6_late_64 q_4.2) else (some (q_3.1, q_4.2))))))))
noncomputable def fl_X6_late : List AV → HP → Option (Int32 × HP) := fun as h => match as with
  | [.inr (.inr (.inl (6, 0))), .inl a1] => f_X6_late a1 h
  | _ => none
noncomputable def F_X6_late : AF := .inl fl_X6_late
set_option maxRecDepth 20000 in
theorem w_X6_late_64 {p : Program} {l : Launch} {e : Env} {R : Room} {s : State} {m : MethodId} {args : Array Value} {below : List Frame} {meth : Method} {c : Code} {cells slots : Nat} {G : AG} {Q : (Int32 × HP) → State → Prop} (CX : am_X p l e R s m args below meth c cells slots G 4 cX6_late RX6 am_tb P_X6_late am_rI Q) {r : (Int32 × HP)} : ∀ (w1 : Int32) (w2 : Nat × Nat) (w3 : Int32) (h : HP), g_X6_late_64 h = some r → am_W p l e R s m args below meth c cells slots G 4 (Q r) 64 [.inr (.inr (.inl (6, 0))), .inl w1, .inr (.inr (.inl w2)), .inl w3] [] h := by
  intro w1 w2 w3 h q
  exact am_run_ok CX ok_X6_late (K := []) (am_K0 (Wp := am_W p l e R s m args below meth c cells slots G 4 (Q r))) 7 64 _ _ _ q
set_option maxRecDepth 20000 in
theorem b_X6_late (l : Launch) (G : AG) : am_B l G 4 cX6_late RX6 am_tb P_X6_late am_rI fl_X6_late := by
  intro p e R s m args below meth c cells slots Q CX as h r q
  unfold fl_X6_late at q
  split at q
  · exact am_run_ok CX ok_X6_late (K := [(64, pk_X6_late_64 (g_X6_late_64))]) (am_K1 (Wp := am_W p l e R s m args below meth c cells slots G 4 (Q r)) (pk_X6_late_64_ok (Wp := am_W p l e R s m args below meth c cells slots G 4 (Q r) 64) (w_X6_late_64 CX)) am_K0) 34 0 _ _ _ q
  · cases q
theorem s_X6_late : ∀ as h x, fl_X6_late as h = some x → (∀ k, (some 6 : Option Nat) = some k → ∃ (j : Nat) (as' : List AV), as = .inr (.inr (.inl (k, j))) :: as') ∧ (am_l0 as).length ≤ 4 := by
  intro as h x q
  unfold fl_X6_late at q
  split at q
  · exact ⟨fun k e => by cases e; exact ⟨_, _, rfl⟩, Nat.le_of_ble_eq_true rfl⟩
  · cases q
theorem M_X6_late (l : Launch) (G : AG) : am_M l G yX6_late cX6_late 4 (some .int) 1 22 (some 6) F_X6_late := am_M_of (f := fl_X6_late) (toR := fun x => (some (.inl x.1), x.2)) (P := P_X6_late) (Rr := am_rI) (own := RX6) (by decide) rfl (fun _ _ => rfl) s_X6_late am_wrI am_rkI pf_RX6 pk_RX6 ps_RX6 (List.forall_mem_cons.mpr ⟨cv_RX6_57 l G (by decide) (by decide), (List.forall_mem_cons.mpr ⟨cv_RX6_70 l G (by decide) (by decide), (List.forall_mem_cons.mpr ⟨cv_RX6_160 l G (by decide) (by decide), (fun _ q => by cases q)⟩)⟩)⟩) (List.forall_mem_cons.mpr ⟨cs_RX6_207 l G (by decide) (by decide), (fun _ q => by cases q)⟩) (fun _ q => by cases q) (b_X6_late l G)
def C_X6_reach : List AC := [(0, .aload_n 0, 1, []), (1, .getfield 10, 4, []), (4, .iload_n 1, 5, []), (5, .invokevirtual 139, 8, []), (8, .ifCond .ne 10, 11, [18]), (11, .aload_n 0, 12, []), (12, .ldc 56, 14, []), (14, .invokevirtual 57, 17, []), (17, .ireturn, 18, []), (18, .aload_n 0, 19, []), (19, .getfield 10, 22, []), (22, .iload_n 1, 23, []), (23, .invokevirtual 204, 26, []), (26, .ireturn, 27, [])]
theorem ok_X6_reach : ∀ x ∈ C_X6_reach, am_ok cX6_reach 2 x = true := by decide +kernel
noncomputable def P_X6_reach : AP := (PF_RX6, PK_RX6, PS_RX6, [(57, 2, F_X6_tell), (139, 2, F_X1_hasMember), (204, 2, F_X1_reachOf)], [], [])
noncomputable def f_X6_reach (a1 : Int32) (h : HP) : Option (Int32 × HP) := (f_X1_hasMember 0 a1 h).bind (fun q_1 => if q_1.1 = (0 : Int32) then ((f_X6_tell ((-1000000001)) q_1.2).bind (fun q_3 => some (q_3.1, q_3.2))) else ((f_X1_reachOf 0 a1 q_1.2).bind (fun q_2 => some (q_2.1, q_2.2))))
noncomputable def fl_X6_reach : List AV → HP → Option (Int32 × HP) := fun as h => match as with
  | [.inr (.inr (.inl (6, 0))), .inl a1] => f_X6_reach a1 h
  | _ => none
noncomputable def F_X6_reach : AF := .inl fl_X6_reach
set_option maxRecDepth 20000 in
theorem b_X6_reach (l : Launch) (G : AG) : am_B l G 2 cX6_reach RX6 am_tb P_X6_reach am_rI fl_X6_reach := by
  intro p e R s m args below meth c cells slots Q CX as h r q
  unfold fl_X6_reach at q
  split at q
  · exact am_run_ok CX ok_X6_reach (K := []) (am_K0 (Wp := am_W p l e R s m args below meth c cells slots G 2 (Q r))) 13 0 _ _ _ q
  · cases q
theorem s_X6_reach : ∀ as h x, fl_X6_reach as h = some x → (∀ k, (some 6 : Option Nat) = some k → ∃ (j : Nat) (as' : List AV), as = .inr (.inr (.inl (k, j))) :: as') ∧ (am_l0 as).length ≤ 2 := by
  intro as h x q
  unfold fl_X6_reach at q
  split at q
  · exact ⟨fun k e => by cases e; exact ⟨_, _, rfl⟩, Nat.le_of_ble_eq_true rfl⟩
  · cases q
theorem M_X6_reach (l : Launch) (G : AG) : am_M l G yX6_reach cX6_reach 2 (some .int) 5 121 (some 6) F_X6_reach := am_M_of (f := fl_X6_reach) (toR := fun x => (some (.inl x.1), x.2)) (P := P_X6_reach) (Rr := am_rI) (own := RX6) (by decide) rfl (fun _ _ => rfl) s_X6_reach am_wrI am_rkI pf_RX6 pk_RX6 ps_RX6 (List.forall_mem_cons.mpr ⟨cv_RX6_57 l G (by decide) (by decide), (List.forall_mem_cons.mpr ⟨cv_RX6_139 l G (by decide) (by decide), (List.forall_mem_cons.mpr ⟨cv_RX6_204 l G (by decide) (by decide), (fun _ q => by cases q)⟩)⟩)⟩) (fun _ q => by cases q) (fun _ q => by cases q) (b_X6_reach l G)
