/-! 12.text -/
def C_X5_tokenWith : List AC := [(0, .iload_n 0, 1, []), (1, .bipush 97, 3, []), (3, .if_icmp .lt 11, 6, [14]), (6, .iload_n 0, 7, []), (7, .bipush 122, 9, []), (9, .if_icmp .gt 5, 12, [14]), (12, .iconst 1, 13, []), (13, .ireturn, 14, []), (14, .iload_n 0, 15, []), (15, .bipush 48, 17, []), (17, .if_icmp .lt 11, 20, [28]), (20, .iload_n 0, 21, []), (21, .bipush 57, 23, []), (23, .if_icmp .gt 5, 26, [28]), (26, .iconst 2, 27, []), (27, .ireturn, 28, []), (28, .iload_n 0, 29, []), (29, .bipush 59, 31, []), (31, .if_icmp .ne 7, 34, [38]), (34, .iconst 3, 35, []), (35, .goto 4, 38, [39]), (38, .iconst 4, 39, []), (39, .ireturn, 40, [])]
theorem ok_X5_tokenWith : ∀ x ∈ C_X5_tokenWith, am_ok cX5_tokenWith 1 x = true := by decide +kernel
noncomputable def P_X5_tokenWith : AP := (PF_RX5, PK_RX5, PS_RX5, [], [], [])
noncomputable def g_X5_tokenWith_28 (a1 : Int32) (h : HP) : Option (Int32 × HP) := if a1 = (59 : Int32) then (some (3, h)) else (some (4, h))
def pk_X5_tokenWith_28 (k : Int32 → HP → Option (Int32 × HP)) : List AV → List AV → HP → Option (Int32 × HP) := fun L st h => match L, st with
  | [.inl a1], [] => k a1 h
  | _, _ => none
theorem pk_X5_tokenWith_28_ok {Wp : List AV → List AV → HP → Prop} {r : (Int32 × HP)} {k : Int32 → HP → Option (Int32 × HP)} (hk : ∀ (a1 : Int32) (h : HP), k a1 h = some r → Wp [.inl a1] [] h) : ∀ L st h, pk_X5_tokenWith_28 k L st h = some r → Wp L st h := by
  intro L st h q
  unfold pk_X5_tokenWith_28 at q
  split at q
  · exact hk _ _ q
  · cases q
noncomputable def g_X5_tokenWith_14 (a1 : Int32) (h : HP) : Option (Int32 × HP) := if a1 < (48 : Int32) then (g_X5_tokenWith_28 a1 h) else (if (57 : Int32) < a1 then (g_X5_tokenWith_28 a1 h) else (some (2, h)))
def pk_X5_tokenWith_14 (k : Int32 → HP → Option (Int32 × HP)) : List AV → List AV → HP → Option (Int32 × HP) := fun L st h => match L, st with
  | [.inl a1], [] => k a1 h
  | _, _ => none
theorem pk_X5_tokenWith_14_ok {Wp : List AV → List AV → HP → Prop} {r : (Int32 × HP)} {k : Int32 → HP → Option (Int32 × HP)} (hk : ∀ (a1 : Int32) (h : HP), k a1 h = some r → Wp [.inl a1] [] h) : ∀ L st h, pk_X5_tokenWith_14 k L st h = some r → Wp L st h := by
  intro L st h q
  unfold pk_X5_tokenWith_14 at q
  split at q
  · exact hk _ _ q
  · cases q
noncomputable def f_X5_tokenWith (a1 : Int32) (h : HP) : Option (Int32 × HP) := if a1 < (97 : Int32) then (g_X5_tokenWith_14 a1 h) else (if (122 : Int32) < a1 then (g_X5_tokenWith_14 a1 h) else (some (1, h)))
noncomputable def fl_X5_tokenWith : List AV → HP → Option (Int32 × HP) := fun as h => match as with
  | [.inl a1] => f_X5_tokenWith a1 h
  | _ => none
noncomputable def F_X5_tokenWith : AF := .inl fl_X5_tokenWith
set_option maxRecDepth 20000 in
theorem w_X5_tokenWith_28 {p : Program} {l : Launch} {e : Env} {R : Room} {s : State} {m : MethodId} {args : Array Value} {below : List Frame} {meth : Method} {c : Code} {cells slots : Nat} {G : AG} {Q : (Int32 × HP) → State → Prop} (CX : am_X p l e R s m args below meth c cells slots G 1 cX5_tokenWith RX5 am_tb P_X5_tokenWith am_rI Q) {r : (Int32 × HP)} : ∀ (a1 : Int32) (h : HP), g_X5_tokenWith_28 a1 h = some r → am_W p l e R s m args below meth c cells slots G 1 (Q r) 28 [.inl a1] [] h := by
  intro a1 h q
  exact am_run_ok CX ok_X5_tokenWith (K := []) (am_K0 (Wp := am_W p l e R s m args below meth c cells slots G 1 (Q r))) 9 28 _ _ _ q
set_option maxRecDepth 20000 in
theorem w_X5_tokenWith_14 {p : Program} {l : Launch} {e : Env} {R : Room} {s : State} {m : MethodId} {args : Array Value} {below : List Frame} {meth : Method} {c : Code} {cells slots : Nat} {G : AG} {Q : (Int32 × HP) → State → Prop} (CX : am_X p l e R s m args below meth c cells slots G 1 cX5_tokenWith RX5 am_tb P_X5_tokenWith am_rI Q) {r : (Int32 × HP)} : ∀ (a1 : Int32) (h : HP), g_X5_tokenWith_14 a1 h = some r → am_W p l e R s m args below meth c cells slots G 1 (Q r) 14 [.inl a1] [] h := by
  intro a1 h q
  exact am_run_ok CX ok_X5_tokenWith (K := [(28, pk_X5_tokenWith_28 (g_X5_tokenWith_28))]) (am_K1 (Wp := am_W p l e R s m args below meth c cells slots G 1 (Q r)) (pk_X5_tokenWith_28_ok (Wp := am_W p l e R s m args below meth c cells slots G 1 (Q r) 28) (w_X5_tokenWith_28 CX)) am_K0) 11 14 _ _ _ q
set_option maxRecDepth 20000 in
theorem b_X5_tokenWith (l : Launch) (G : AG) : am_B l G 1 cX5_tokenWith RX5 am_tb P_X5_tokenWith am_rI fl_X5_tokenWith := by
  intro p e R s m args below meth c cells slots Q CX as h r q
  unfold fl_X5_tokenWith at q
  split at q
  · exact am_run_ok CX ok_X5_tokenWith (K := [(14, pk_X5_tokenWith_14 (g_X5_tokenWith_14))]) (am_K1 (Wp := am_W p l e R s m args below meth c cells slots G 1 (Q r)) (pk_X5_tokenWith_14_ok (Wp := am_W p l e R s m args below meth c cells slots G 1 (Q r) 14) (w_X5_tokenWith_14 CX)) am_K0) 11 0 _ _ _ q
  · cases q
theorem s_X5_tokenWith : ∀ as h x, fl_X5_tokenWith as h = some x → (∀ k, (none : Option Nat) = some k → ∃ (j : Nat) (as' : List AV), as = .inr (.inr (.inl (k, j))) :: as') ∧ (am_l0 as).length ≤ 1 := by
  intro as h x q
  unfold fl_X5_tokenWith at q
  split at q
  · exact ⟨fun k e => (by cases e), Nat.le_of_ble_eq_true rfl⟩
  · cases q
theorem M_X5_tokenWith (l : Launch) (G : AG) : am_M l G yX5_tokenWith cX5_tokenWith 1 (some .int) 0 0 none F_X5_tokenWith := am_M_of (f := fl_X5_tokenWith) (toR := fun x => (some (.inl x.1), x.2)) (P := P_X5_tokenWith) (Rr := am_rI) (own := RX5) (by decide) rfl (fun _ _ => rfl) s_X5_tokenWith am_wrI am_rkI pf_RX5 pk_RX5 ps_RX5 (fun _ q => by cases q) (fun _ q => by cases q) (fun _ q => by cases q) (b_X5_tokenWith l G)
theorem cs_RX5_133 (l : Launch) (G : AG) {fr lo : Nat} (h1 : 1 ≤ fr) (h2 : 21 ≤ lo) : am_csOK l G RX5 fr lo (133, 2, F_J9_min_7cf53) := Or.inr (Or.inr ⟨rfl, ⟨(am_tb_mem (wd_13 _ (List.mem_of_getElem? (i := 1) rfl))), (am_tb_mem (wd_8 _ (List.mem_of_getElem? (i := 31) rfl))), (am_tb_mem (wd_1 _ (List.mem_of_getElem? (i := 28) rfl))), (am_tb_mem (wd_8 _ (List.mem_of_getElem? (i := 32) rfl)))⟩, h1, h2⟩)
def C_X5_numberHere : List AC := [(0, .iconst 0, 1, []), (1, .istore_n 1, 2, []), (2, .aload_n 0, 3, []), (3, .getfield 33, 6, []), (6, .istore_n 2, 7, []), (7, .iload_n 2, 8, []), (8, .aload_n 0, 9, []), (9, .getfield 19, 12, []), (12, .if_icmp .ge 40, 15, [52]), (15, .iload_n 1, 16, []), (16, .sipush 1000, 19, []), (19, .if_icmp .ge 33, 22, [52]), (22, .sipush 1000, 25, []), (25, .iload_n 1, 26, []), (26, .bipush 10, 28, []), (28, .imul, 29, []), (29, .aload_n 0, 30, []), (30, .getfield 9, 33, []), (33, .getfield 115, 36, []), (36, .iload_n 2, 37, []), (37, .iaload, 38, []), (38, .iadd, 39, []), (39, .bipush 48, 41, []), (41, .isub, 42, []), (42, .invokestatic 133, 45, []), (45, .istore_n 1, 46, []), (46, .iinc 2 1, 49, []), (49, .goto (-42), 52, [7]), (52, .iload_n 1, 53, []), (53, .ireturn, 54, [])]
theorem ok_X5_numberHere : ∀ x ∈ C_X5_numberHere, am_ok cX5_numberHere 3 x = true := by decide +kernel
noncomputable def P_X5_numberHere : AP := (PF_RX5, PK_RX5, PS_RX5, [], [(133, 2, F_J9_min_7cf53)], [])
noncomputable def g_X5_numberHere_7  : Nat → Int32 → Int32 → HP → Option (Int32 × HP)
  | 0, _, _, _ => none
  | n + 1, a1, a2, h => if h_rI h 5 0 4 ≤ a2 then (some (a1, h)) else (if (1000 : Int32) ≤ a1 then (some (a1, h)) else ((am_ix a2 120).bind (fun k_1 => (f_J9_min_7cf53 1000 (((a1 * 10) + (h_rI h 11 0 k_1)) - 48) h).bind (fun q_2 => g_X5_numberHere_7 n q_2.1 (a2 + 1) q_2.2))))
def pk_X5_numberHere_7 (k : Int32 → Int32 → HP → Option (Int32 × HP)) : List AV → List AV → HP → Option (Int32 × HP) := fun L st h => match L, st with
  | [.inr (.inr (.inl (5, 0))), .inl a1, .inl a2], [] => k a1 a2 h
  | _, _ => none
theorem pk_X5_numberHere_7_ok {Wp : List AV → List AV → HP → Prop} {r : (Int32 × HP)} {k : Int32 → Int32 → HP → Option (Int32 × HP)} (hk : ∀ (a1 : Int32) (a2 : Int32) (h : HP), k a1 a2 h = some r → Wp [.inr (.inr (.inl (5, 0))), .inl a1, .inl a2] [] h) : ∀ L st h, pk_X5_numberHere_7 k L st h = some r → Wp L st h := by
  intro L st h q
  unfold pk_X5_numberHere_7 at q
  split at q
  · exact hk _ _ _ q
  · cases q
noncomputable def f_X5_numberHere  (h : HP) : Option (Int32 × HP) := g_X5_numberHere_7 am_fu 0 (h_rI h 5 0 3) h
noncomputable def fl_X5_numberHere : List AV → HP → Option (Int32 × HP) := fun as h => match as with
  | [.inr (.inr (.inl (5, 0)))] => f_X5_numberHere h
  | _ => none
noncomputable def F_X5_numberHere : AF := .inl fl_X5_numberHere
set_option maxRecDepth 20000 in
theorem w_X5_numberHere_7 {p : Program} {l : Launch} {e : Env} {R : Room} {s : State} {m : MethodId} {args : Array Value} {below : List Frame} {meth : Method} {c : Code} {cells slots : Nat} {G : AG} {Q : (Int32 × HP) → State → Prop} (CX : am_X p l e R s m args below meth c cells slots G 3 cX5_numberHere RX5 am_tb P_X5_numberHere am_rI Q) {r : (Int32 × HP)} : ∀ (n : Nat) (a1 : Int32) (a2 : Int32) (h : HP), g_X5_numberHere_7 n a1 a2 h = some r → am_W p l e R s m args below meth c cells slots G 3 (Q r) 7 [.inr (.inr (.inl (5, 0))), .inl a1, .inl a2] [] h := by
  intro n
  induction n with
  | zero =>
    intro a1 a2 h q
    have q9 : (none : Option (Int32 × HP)) = some r := q
    cases q9
  | succ n ih =>
    intro a1 a2 h q
    exact am_run_ok CX ok_X5_numberHere (K := [(7, pk_X5_numberHere_7 (g_X5_numberHere_7 n))]) (am_K1 (Wp := am_W p l e R s m args below meth c cells slots G 3 (Q r)) (pk_X5_numberHere_7_ok (Wp := am_W p l e R s m args below meth c cells slots G 3 (Q r) 7) ih) am_K0) 26 7 _ _ _ q
set_option maxRecDepth 20000 in
theorem b_X5_numberHere (l : Launch) (G : AG) : am_B l G 3 cX5_numberHere RX5 am_tb P_X5_numberHere am_rI fl_X5_numberHere := by
  intro p e R s m args below meth c cells slots Q CX as h r q
  unfold fl_X5_numberHere at q
  split at q
  · exact am_run_ok CX ok_X5_numberHere (K := [(7, pk_X5_numberHere_7 (g_X5_numberHere_7 am_fu))]) (am_K1 (Wp := am_W p l e R s m args below meth c cells slots G 3 (Q r)) (pk_X5_numberHere_7_ok (Wp := am_W p l e R s m args below meth c cells slots G 3 (Q r) 7) (w_X5_numberHere_7 CX am_fu)) am_K0) 8 0 _ _ _ q
  · cases q
theorem s_X5_numberHere : ∀ as h x, fl_X5_numberHere as h = some x → (∀ k, (some 5 : Option Nat) = some k → ∃ (j : Nat) (as' : List AV), as = .inr (.inr (.inl (k, j))) :: as') ∧ (am_l0 as).length ≤ 3 := by
  intro as h x q
  unfold fl_X5_numberHere at q
  split at q
  · exact ⟨fun k e => by cases e; exact ⟨_, _, rfl⟩, Nat.le_of_ble_eq_true rfl⟩
  · cases q
theorem M_X5_numberHere (l : Launch) (G : AG) : am_M l G yX5_numberHere cX5_numberHere 3 (some .int) 1 21 (some 5) F_X5_numberHere := am_M_of (f := fl_X5_numberHere) (toR := fun x => (some (.inl x.1), x.2)) (P := P_X5_numberHere) (Rr := am_rI) (own := RX5) (by decide) rfl (fun _ _ => rfl) s_X5_numberHere am_wrI am_rkI pf_RX5 pk_RX5 ps_RX5 (fun _ q => by cases q) (List.forall_mem_cons.mpr ⟨cs_RX5_133 l G (by decide) (by decide), (fun _ q => by cases q)⟩) (fun _ q => by cases q) (b_X5_numberHere l G)
theorem cv_RX5_130 (l : Launch) (G : AG) {fr lo : Nat} (h1 : 1 + 1 ≤ fr) (h2 : 8 + (3 + 11) + 21 ≤ lo) : am_cvOK l G RX5 fr lo (130, 1, F_X5_numberHere) := ⟨yX5_numberHere, cX5_numberHere, 3, (some .int), 1, 21, 5, RX5, M_X5_numberHere l G, ⟨(am_tb_mem (wd_12 _ (List.mem_of_getElem? (i := 38) rfl))), (am_tb_mem (wd_12 _ (List.mem_of_getElem? (i := 39) rfl))), (am_tb_mem (wd_0 _ (List.mem_of_getElem? (i := 3) rfl))), (am_tb_mem (wd_1 _ (List.mem_of_getElem? (i := 24) rfl))), (am_tb_mem (wd_13 _ (List.mem_of_getElem? (i := 0) rfl)))⟩, ⟨rfl, by decide, by decide, by decide +kernel⟩, Or.inl ⟨by decide, rfl⟩, h1, h2⟩
theorem cs_RX5_127 (l : Launch) (G : AG) {fr lo : Nat} (h1 : 0 + 1 ≤ fr) (h2 : 8 + (1 + 11) + 0 ≤ lo) : am_csOK l G RX5 fr lo (127, 1, F_X5_tokenWith) := Or.inl ⟨yX5_tokenWith, cX5_tokenWith, 1, (some .int), 0, 0, M_X5_tokenWith l G, ⟨(am_tb_mem (wd_12 _ (List.mem_of_getElem? (i := 35) rfl))), (am_tb_mem (wd_12 _ (List.mem_of_getElem? (i := 36) rfl))), (am_tb_mem (wd_1 _ (List.mem_of_getElem? (i := 24) rfl))), (am_tb_mem (wd_12 _ (List.mem_of_getElem? (i := 37) rfl)))⟩, ⟨by decide, by decide, by decide +kernel⟩, h1, h2⟩
def C_X5_step : List AC := [(0, .aload_n 0, 1, []), (1, .aload_n 0, 2, []), (2, .getfield 19, 5, []), (5, .putfield 33, 8, []), (8, .aload_n 0, 9, []), (9, .getfield 33, 12, []), (12, .aload_n 0, 13, []), (13, .getfield 9, 16, []), (16, .getfield 125, 19, []), (19, .if_icmp .ge 33, 22, [52]), (22, .aload_n 0, 23, []), (23, .getfield 9, 26, []), (26, .getfield 115, 29, []), (29, .aload_n 0, 30, []), (30, .getfield 33, 33, []), (33, .iaload, 34, []), (34, .bipush 32, 36, []), (36, .if_icmp .ne 16, 39, [52]), (39, .aload_n 0, 40, []), (40, .dup, 41, []), (41, .getfield 33, 44, []), (44, .iconst 1, 45, []), (45, .iadd, 46, []), (46, .putfield 33, 49, []), (49, .goto (-41), 52, [8]), (52, .aload_n 0, 53, []), (53, .aload_n 0, 54, []), (54, .getfield 33, 57, []), (57, .putfield 19, 60, []), (60, .aload_n 0, 61, []), (61, .getfield 33, 64, []), (64, .aload_n 0, 65, []), (65, .getfield 9, 68, []), (68, .getfield 125, 71, []), (71, .if_icmp .lt 9, 74, [80]), (74, .aload_n 0, 75, []), (75, .iconst 0, 76, []), (76, .putfield 30, 79, []), (79, .return_, 80, []), (80, .aload_n 0, 81, []), (81, .aload_n 0, 82, []), (82, .getfield 9, 85, []), (85, .getfield 115, 88, []), (88, .aload_n 0, 89, []), (89, .getfield 33, 92, []), (92, .iaload, 93, []), (93, .invokestatic 127, 96, []), (96, .putfield 30, 99, []), (99, .aload_n 0, 100, []), (100, .dup, 101, []), (101, .getfield 19, 104, []), (104, .iconst 1, 105, []), (105, .iadd, 106, []), (106, .putfield 19, 109, []), (109, .aload_n 0, 110, []), (110, .getfield 30, 113, []), (113, .iconst 1, 114, []), (114, .if_icmp .eq 11, 117, [125]), (117, .aload_n 0, 118, []), (118, .getfield 30, 121, []), (121, .iconst 2, 122, []), (122, .if_icmp .ne 7, 125, [129]), (125, .iconst 1, 126, []), (126, .goto 4, 129, [130]), (129, .iconst 0, 130, []), (130, .istore_n 1, 131, []), (131, .iload_n 1, 132, []), (132, .ifCond .eq 52, 135, [184]), (135, .aload_n 0, 136, []), (136, .getfield 19, 139, []), (139, .aload_n 0, 140, []), (140, .getfield 9, 143, []), (143, .getfield 125, 146, []), (146, .if_icmp .ge 38, 149, [184]), (149, .aload_n 0, 150, []), (150, .getfield 9, 153, []), (153, .getfield 115, 156, []), (156, .aload_n 0, 157, []), (157, .getfield 19, 160, []), (160, .iaload, 161, []), (161, .invokestatic 127, 164, []), (164, .aload_n 0, 165, []), (165, .getfield 30, 168, []), (168, .if_icmp .ne 16, 171, [184]), (171, .aload_n 0, 172, []), (172, .dup, 173, []), (173, .getfield 19, 176, []), (176, .iconst 1, 177, []), (177, .iadd, 178, []), (178, .putfield 19, 181, []), (181, .goto (-50), 184, [131]), (184, .aload_n 0, 185, []), (185, .aload_n 0, 186, []), (186, .getfield 30, 189, []), (189, .iconst 2, 190, []), (190, .if_icmp .ne 10, 193, [200]), (193, .aload_n 0, 194, []), (194, .invokevirtual 130, 197, []), (197, .goto 4, 200, [201]), (200, .iconst 0, 201, []), (201, .putfield 91, 204, []), (204, .return_, 205, [])]
theorem ok_X5_step : ∀ x ∈ C_X5_step, am_ok cX5_step 2 x = true := by decide +kernel
noncomputable def P_X5_step : AP := (PF_RX5, PK_RX5, PS_RX5, [(130, 1, F_X5_numberHere)], [(127, 1, F_X5_tokenWith)], [])
noncomputable def g_X5_step_184  (h : HP) : Option HP := if h_rI h 5 0 2 = (2 : Int32) then ((f_X5_numberHere h).bind (fun q_1 => some (h_wI q_1.2 5 0 5 q_1.1))) else (some (h_wI h 5 0 5 0))
def pk_X5_step_184 (k : HP → Option HP) : List AV → List AV → HP → Option HP := fun L st h => match L, st with
  | [.inr (.inr (.inl (5, 0))), .inl _], [] => k h
  | _, _ => none
theorem pk_X5_step_184_ok {Wp : List AV → List AV → HP → Prop} {r : HP} {k : HP → Option HP} (hk : ∀ (w1 : Int32) (h : HP), k h = some r → Wp [.inr (.inr (.inl (5, 0))), .inl w1] [] h) : ∀ L st h, pk_X5_step_184 k L st h = some r → Wp L st h := by
  intro L st h q
  unfold pk_X5_step_184 at q
  split at q
  · exact hk _ _ q
  · cases q
noncomputable def g_X5_step_131  : Nat → Int32 → HP → Option HP
  | 0, _, _ => none
  | n + 1, a1, h => if a1 = (0 : Int32) then (g_X5_step_184 h) else (if h_rI h 4 0 1 ≤ h_rI h 5 0 4 then (g_X5_step_184 h) else ((am_ix (h_rI h 5 0 4) 120).bind (fun k_1 => (f_X5_tokenWith (h_rI h 11 0 k_1) h).bind (fun q_2 => if q_2.1 = h_rI q_2.2 5 0 2 then (g_X5_step_131 n a1 (h_wI q_2.2 5 0 4 ((h_rI q_2.2 5 0 4) + 1))) else (g_X5_step_184 q_2.2)))))
def pk_X5_step_131 (k : Int32 → HP → Option HP) : List AV → List AV → HP → Option HP := fun L st h => match L, st with
  | [.inr (.inr (.inl (5, 0))), .inl a1], [] => k a1 h
  | _, _ => none
theorem pk_X5_step_131_ok {Wp : List AV → List AV → HP → Prop} {r : HP} {k : Int32 → HP → Option HP} (hk : ∀ (a1 : Int32) (h : HP), k a1 h = some r → Wp [.inr (.inr (.inl (5, 0))), .inl a1] [] h) : ∀ L st h, pk_X5_step_131 k L st h = some r → Wp L st h := by
  intro L st h q
  unfold pk_X5_step_131 at q
  split at q
  · exact hk _ _ q
  · cases q
noncomputable def g_X5_step_52  (h : HP) : Option HP := if h_rI (h_wI h 5 0 4 (h_rI h 5 0 3)) 5 0 3 < h_rI (h_wI h 5 0 4 (h_rI h 5 0 3)) 4 0 1 then ((am_ix (h_rI (h_wI h 5 0 4 (h_rI h 5 0 3)) 5 0 3) 120).bind (fun k_1 => (f_X5_tokenWith (h_rI (h_wI h 5 0 4 (h_rI h 5 0 3)) 11 0 k_1) (h_wI h 5 0 4 (h_rI h 5 0 3))).bind (fun q_2 => if h_rI (h_wI (h_wI q_2.2 5 0 2 q_2.1) 5 0 4 ((h_rI (h_wI q_2.2 5 0 2 q_2.1) 5 0 4) + 1)) 5 0 2 = (1 : Int32) then (g_X5_step_131 am_fu 1 (h_wI (h_wI q_2.2 5 0 2 q_2.1) 5 0 4 ((h_rI (h_wI q_2.2 5 0 2 q_2.1) 5 0 4) + 1))) else (if h_rI (h_wI (h_wI q_2.2 5 0 2 q_2.1) 5 0 4 ((h_rI (h_wI q_2.2 5 0 2 q_2.1) 5 0 4) + 1)) 5 0 2 = (2 : Int32) then (g_X5_step_131 am_fu 1 (h_wI (h_wI q_2.2 5 0 2 q_2.1) 5 0 4 ((h_rI (h_wI q_2.2 5 0 2 q_2.1) 5 0 4) + 1))) else (g_X5_step_131 am_fu 0 (h_wI (h_wI q_2.2 5 0 2 q_2.1) 5 0 4 ((h_rI (h_wI q_2.2 5 0 2 q_2.1) 5 0 4) + 1))))))) else (some (h_wI (h_wI h 5 0 4 (h_rI h 5 0 3)) 5 0 2 0))
def pk_X5_step_52 (k : HP → Option HP) : List AV → List AV → HP → Option HP := fun L st h => match L, st with
  | [.inr (.inr (.inl (5, 0))), .inr (.inr (.inr ()))], [] => k h
  | _, _ => none
theorem pk_X5_step_52_ok {Wp : List AV → List AV → HP → Prop} {r : HP} {k : HP → Option HP} (hk : ∀ (h : HP), k h = some r → Wp [.inr (.inr (.inl (5, 0))), .inr (.inr (.inr ()))] [] h) : ∀ L st h, pk_X5_step_52 k L st h = some r → Wp L st h := by
  intro L st h q
  unfold pk_X5_step_52 at q
  split at q
  · exact hk _ q
  · cases q
noncomputable def g_X5_step_8  : Nat → HP → Option HP
  | 0, _ => none
  | n + 1, h => if h_rI h 4 0 1 ≤ h_rI h 5 0 3 then (g_X5_step_52 h) else ((am_ix (h_rI h 5 0 3) 120).bind (fun k_1 => if h_rI h 11 0 k_1 = (32 : Int32) then (g_X5_step_8 n (h_wI h 5 0 3 ((h_rI h 5 0 3) + 1))) else (g_X5_step_52 h)))
def pk_X5_step_8 (k : HP → Option HP) : List AV → List AV → HP → Option HP := fun L st h => match L, st with
  | [.inr (.inr (.inl (5, 0))), .inr (.inr (.inr ()))], [] => k h
  | _, _ => none
theorem pk_X5_step_8_ok {Wp : List AV → List AV → HP → Prop} {r : HP} {k : HP → Option HP} (hk : ∀ (h : HP), k h = some r → Wp [.inr (.inr (.inl (5, 0))), .inr (.inr (.inr ()))] [] h) : ∀ L st h, pk_X5_step_8 k L st h = some r → Wp L st h := by
  intro L st h q
  unfold pk_X5_step_8 at q
  split at q
  · exact hk _ q
  · cases q
noncomputable def f_X5_step  (h : HP) : Option HP := g_X5_step_8 am_fu (h_wI h 5 0 3 (h_rI h 5 0 4))
noncomputable def fl_X5_step : List AV → HP → Option HP := fun as h => match as with
  | [.inr (.inr (.inl (5, 0)))] => f_X5_step h
  | _ => none
noncomputable def F_X5_step : AF := .inr (.inl fl_X5_step)
set_option maxRecDepth 20000 in
theorem w_X5_step_184 {p : Program} {l : Launch} {e : Env} {R : Room} {s : State} {m : MethodId} {args : Array Value} {below : List Frame} {meth : Method} {c : Code} {cells slots : Nat} {G : AG} {Q : HP → State → Prop} (CX : am_X p l e R s m args below meth c cells slots G 2 cX5_step RX5 am_tb P_X5_step am_rV Q) {r : HP} : ∀ (w1 : Int32) (h : HP), g_X5_step_184 h = some r → am_W p l e R s m args below meth c cells slots G 2 (Q r) 184 [.inr (.inr (.inl (5, 0))), .inl w1] [] h := by
  intro w1 h q
  exact am_run_ok CX ok_X5_step (K := []) (am_K0 (Wp := am_W p l e R s m args below meth c cells slots G 2 (Q r))) 13 184 _ _ _ q
set_option maxRecDepth 20000 in
theorem w_X5_step_131 {p : Program} {l : Launch} {e : Env} {R : Room} {s : State} {m : MethodId} {args : Array Value} {below : List Frame} {meth : Method} {c : Code} {cells slots : Nat} {G : AG} {Q : HP → State → Prop} (CX : am_X p l e R s m args below meth c cells slots G 2 cX5_step RX5 am_tb P_X5_step am_rV Q) {r : HP} : ∀ (n : Nat) (a1 : Int32) (h : HP), g_X5_step_131 n a1 h = some r → am_W p l e R s m args below meth c cells slots G 2 (Q r) 131 [.inr (.inr (.inl (5, 0))), .inl a1] [] h := by
  intro n
  induction n with
  | zero =>
    intro a1 h q
    have q9 : (none : Option HP) = some r := q
    cases q9
  | succ n ih =>
    intro a1 h q
    exact am_run_ok CX ok_X5_step (K := [(184, pk_X5_step_184 (g_X5_step_184)), (131, pk_X5_step_131 (g_X5_step_131 n))]) (am_K1 (Wp := am_W p l e R s m args below meth c cells slots G 2 (Q r)) (pk_X5_step_184_ok (Wp := am_W p l e R s m args below meth c cells slots G 2 (Q r) 184) (w_X5_step_184 CX)) (am_K1 (Wp := am_W p l e R s m args below meth c cells slots G 2 (Q r)) (pk_X5_step_131_ok (Wp := am_W p l e R s m args below meth c cells slots G 2 (Q r) 131) ih) am_K0)) 28 131 _ _ _ q
set_option maxRecDepth 20000 in
theorem w_X5_step_52 {p : Program} {l : Launch} {e : Env} {R : Room} {s : State} {m : MethodId} {args : Array Value} {below : List Frame} {meth : Method} {c : Code} {cells slots : Nat} {G : AG} {Q : HP → State → Prop} (CX : am_X p l e R s m args below meth c cells slots G 2 cX5_step RX5 am_tb P_X5_step am_rV Q) {r : HP} : ∀ (h : HP), g_X5_step_52 h = some r → am_W p l e R s m args below meth c cells slots G 2 (Q r) 52 [.inr (.inr (.inl (5, 0))), .inr (.inr (.inr ()))] [] h := by
  intro h q
  exact am_run_ok CX ok_X5_step (K := [(131, pk_X5_step_131 (g_X5_step_131 am_fu))]) (am_K1 (Wp := am_W p l e R s m args below meth c cells slots G 2 (Q r)) (pk_X5_step_131_ok (Wp := am_W p l e R s m args below meth c cells slots G 2 (Q r) 131) (w_X5_step_131 CX am_fu)) am_K0) 39 52 _ _ _ q
set_option maxRecDepth 20000 in
theorem w_X5_step_8 {p : Program} {l : Launch} {e : Env} {R : Room} {s : State} {m : MethodId} {args : Array Value} {below : List Frame} {meth : Method} {c : Code} {cells slots : Nat} {G : AG} {Q : HP → State → Prop} (CX : am_X p l e R s m args below meth c cells slots G 2 cX5_step RX5 am_tb P_X5_step am_rV Q) {r : HP} : ∀ (n : Nat) (h : HP), g_X5_step_8 n h = some r → am_W p l e R s m args below meth c cells slots G 2 (Q r) 8 [.inr (.inr (.inl (5, 0))), .inr (.inr (.inr ()))] [] h := by
  intro n
  induction n with
  | zero =>
    intro h q
    have q9 : (none : Option HP) = some r := q
    cases q9
  | succ n ih =>
    intro h q
    exact am_run_ok CX ok_X5_step (K := [(52, pk_X5_step_52 (g_X5_step_52)), (8, pk_X5_step_8 (g_X5_step_8 n))]) (am_K1 (Wp := am_W p l e R s m args below meth c cells slots G 2 (Q r)) (pk_X5_step_52_ok (Wp := am_W p l e R s m args below meth c cells slots G 2 (Q r) 52) (w_X5_step_52 CX)) (am_K1 (Wp := am_W p l e R s m args below meth c cells slots G 2 (Q r)) (pk_X5_step_8_ok (Wp := am_W p l e R s m args below meth c cells slots G 2 (Q r) 8) ih) am_K0)) 24 8 _ _ _ q
set_option maxRecDepth 20000 in
theorem b_X5_step (l : Launch) (G : AG) : am_B l G 2 cX5_step RX5 am_tb P_X5_step am_rV fl_X5_step := by
  intro p e R s m args below meth c cells slots Q CX as h r q
  unfold fl_X5_step at q
  split at q
  · exact am_run_ok CX ok_X5_step (K := [(8, pk_X5_step_8 (g_X5_step_8 am_fu))]) (am_K1 (Wp := am_W p l e R s m args below meth c cells slots G 2 (Q r)) (pk_X5_step_8_ok (Wp := am_W p l e R s m args below meth c cells slots G 2 (Q r) 8) (w_X5_step_8 CX am_fu)) am_K0) 7 0 _ _ _ q
  · cases q
theorem s_X5_step : ∀ as h x, fl_X5_step as h = some x → (∀ k, (some 5 : Option Nat) = some k → ∃ (j : Nat) (as' : List AV), as = .inr (.inr (.inl (k, j))) :: as') ∧ (am_l0 as).length ≤ 2 := by
  intro as h x q
  unfold fl_X5_step at q
  split at q
  · exact ⟨fun k e => by cases e; exact ⟨_, _, rfl⟩, Nat.le_of_ble_eq_true rfl⟩
  · cases q
theorem M_X5_step (l : Launch) (G : AG) : am_M l G yX5_step cX5_step 2 none 2 43 (some 5) F_X5_step := am_M_of (f := fl_X5_step) (toR := fun x => (none, x)) (P := P_X5_step) (Rr := am_rV) (own := RX5) (by decide) rfl (fun _ _ => rfl) s_X5_step am_wrV am_rkV pf_RX5 pk_RX5 ps_RX5 (List.forall_mem_cons.mpr ⟨cv_RX5_130 l G (by decide) (by decide), (fun _ q => by cases q)⟩) (List.forall_mem_cons.mpr ⟨cs_RX5_127 l G (by decide) (by decide), (fun _ q => by cases q)⟩) (fun _ q => by cases q) (b_X5_step l G)
def C_X5_nameOf : List AC := [(0, .iload_n 0, 1, []), (1, .tableswitch 50 1 5 #[35, 38, 41, 44, 47], 36, [51, 36, 39, 42, 45, 48]), (36, .ldc 98, 38, []), (38, .areturn, 39, []), (39, .ldc 100, 41, []), (41, .areturn, 42, []), (42, .ldc 102, 44, []), (44, .areturn, 45, []), (45, .ldc 104, 47, []), (47, .areturn, 48, []), (48, .ldc 106, 50, []), (50, .areturn, 51, []), (51, .ldc 108, 53, []), (53, .areturn, 54, [])]
theorem ok_X5_nameOf : ∀ x ∈ C_X5_nameOf, am_ok cX5_nameOf 1 x = true := by decide +kernel
noncomputable def P_X5_nameOf : AP := (PF_RX5, PK_RX5, PS_RX5, [], [], [])
noncomputable def f_X5_nameOf (a1 : Int32) (h : HP) : Option (Nat × HP) := if a1 = 1 then (some (6, h)) else (if a1 = 2 then (some (7, h)) else (if a1 = 3 then (some (8, h)) else (if a1 = 4 then (some (9, h)) else (if a1 = 5 then (some (10, h)) else (some (11, h))))))
noncomputable def fl_X5_nameOf : List AV → HP → Option (Nat × HP) := fun as h => match as with
  | [.inl a1] => f_X5_nameOf a1 h
  | _ => none
noncomputable def F_X5_nameOf : AF := .inr (.inr (.inr fl_X5_nameOf))
set_option maxRecDepth 20000 in
theorem b_X5_nameOf (l : Launch) (G : AG) : am_B l G 1 cX5_nameOf RX5 am_tb P_X5_nameOf am_rR fl_X5_nameOf := by
  intro p e R s m args below meth c cells slots Q CX as h r q
  unfold fl_X5_nameOf at q
  split at q
  · exact am_run_ok CX ok_X5_nameOf (K := []) (am_K0 (Wp := am_W p l e R s m args below meth c cells slots G 1 (Q r))) 7 0 _ _ _ q
  · cases q
theorem s_X5_nameOf : ∀ as h x, fl_X5_nameOf as h = some x → (∀ k, (none : Option Nat) = some k → ∃ (j : Nat) (as' : List AV), as = .inr (.inr (.inl (k, j))) :: as') ∧ (am_l0 as).length ≤ 1 := by
  intro as h x q
  unfold fl_X5_nameOf at q
  split at q
  · exact ⟨fun k e => (by cases e), Nat.le_of_ble_eq_true rfl⟩
  · cases q
theorem wr_X5_nameOf : ∀ as h x, fl_X5_nameOf as h = some x → ∀ v, ((fun x : Nat × HP => ((some (.inr (.inr (.inl (16, x.1)))) : Option AV), x.2)) x).1 = some v → am_wv v := by
  intro as h x q v hv
  cases hv
  unfold fl_X5_nameOf at q
  split at q
  · unfold f_X5_nameOf at q
    show x.1 < 12
    (repeat' split at q) <;> (cases q; exact Nat.le_of_ble_eq_true rfl)
  · cases q
theorem M_X5_nameOf (l : Launch) (G : AG) : am_M l G yX5_nameOf cX5_nameOf 1 (some (.object "java/lang/String")) 0 0 none F_X5_nameOf := am_M_of (f := fl_X5_nameOf) (toR := fun x => (some (.inr (.inr (.inl (16, x.1)))), x.2)) (P := P_X5_nameOf) (Rr := am_rR) (own := RX5) (by decide) rfl (fun _ _ => rfl) s_X5_nameOf wr_X5_nameOf am_rkR pf_RX5 pk_RX5 ps_RX5 (fun _ q => by cases q) (fun _ q => by cases q) (fun _ q => by cases q) (b_X5_nameOf l G)
theorem cv_RX5_110 (l : Launch) (G : AG) {fr lo : Nat} (h1 : 1 + 1 ≤ fr) (h2 : 8 + (1 + 11) + 20 ≤ lo) : am_cvOK l G RX5 fr lo (110, 1, F_J0_length_8abf5) := ⟨yJ0_length_8abf5, cJ0_length_8abf5, 1, (some .int), 1, 20, 16, RJ0, M_J0_length_8abf5 l G, ⟨(am_tb_mem (wd_13 _ (List.mem_of_getElem? (i := 14) rfl))), (am_tb_mem (wd_13 _ (List.mem_of_getElem? (i := 15) rfl))), (am_tb_mem (wd_13 _ (List.mem_of_getElem? (i := 16) rfl))), (am_tb_mem (wd_1 _ (List.mem_of_getElem? (i := 29) rfl))), (am_tb_mem (wd_13 _ (List.mem_of_getElem? (i := 17) rfl)))⟩, ⟨rfl, by decide, by decide, by decide +kernel⟩, Or.inr ⟨rfl, rfl⟩, h1, h2⟩
theorem cv_RX5_121 (l : Launch) (G : AG) {fr lo : Nat} (h1 : 3 + 1 ≤ fr) (h2 : 8 + (2 + 11) + 64 ≤ lo) : am_cvOK l G RX5 fr lo (121, 2, F_J0_charAt_5068e) := ⟨yJ0_charAt_5068e, cJ0_charAt_5068e, 2, (some .char), 3, 64, 16, RJ0, M_J0_charAt_5068e l G, ⟨(am_tb_mem (wd_13 _ (List.mem_of_getElem? (i := 23) rfl))), (am_tb_mem (wd_13 _ (List.mem_of_getElem? (i := 24) rfl))), (am_tb_mem (wd_13 _ (List.mem_of_getElem? (i := 25) rfl))), (am_tb_mem (wd_1 _ (List.mem_of_getElem? (i := 29) rfl))), (am_tb_mem (wd_13 _ (List.mem_of_getElem? (i := 26) rfl)))⟩, ⟨rfl, by decide, by decide, by decide +kernel⟩, Or.inr ⟨rfl, rfl⟩, h1, h2⟩
def C_X5_isWord : List AC := [(0, .aload_n 0, 1, []), (1, .getfield 30, 4, []), (4, .iconst 1, 5, []), (5, .if_icmp .ne 19, 8, [24]), (8, .aload_n 0, 9, []), (9, .getfield 19, 12, []), (12, .aload_n 0, 13, []), (13, .getfield 33, 16, []), (16, .isub, 17, []), (17, .aload_n 1, 18, []), (18, .invokevirtual 110, 21, []), (21, .if_icmp .eq 5, 24, [26]), (24, .iconst 0, 25, []), (25, .ireturn, 26, []), (26, .iconst 0, 27, []), (27, .istore_n 2, 28, []), (28, .iload_n 2, 29, []), (29, .aload_n 1, 30, []), (30, .invokevirtual 110, 33, []), (33, .if_icmp .ge 33, 36, [66]), (36, .aload_n 0, 37, []), (37, .getfield 9, 40, []), (40, .getfield 115, 43, []), (43, .aload_n 0, 44, []), (44, .getfield 33, 47, []), (47, .iload_n 2, 48, []), (48, .iadd, 49, []), (49, .iaload, 50, []), (50, .aload_n 1, 51, []), (51, .iload_n 2, 52, []), (52, .invokevirtual 121, 55, []), (55, .if_icmp .eq 5, 58, [60]), (58, .iconst 0, 59, []), (59, .ireturn, 60, []), (60, .iinc 2 1, 63, []), (63, .goto (-35), 66, [28]), (66, .iconst 1, 67, []), (67, .ireturn, 68, [])]
theorem ok_X5_isWord : ∀ x ∈ C_X5_isWord, am_ok cX5_isWord 3 x = true := by decide +kernel
noncomputable def P_X5_isWord : AP := (PF_RX5, PK_RX5, PS_RX5, [(110, 1, F_J0_length_8abf5), (121, 2, F_J0_charAt_5068e)], [], [])
noncomputable def g_X5_isWord_28  : Nat → Nat → Int32 → HP → Option (Int32 × HP)
  | 0, _, _, _ => none
  | n + 1, a1, a2, h => (f_J0_length_8abf5 a1 h).bind (fun q_1 => if q_1.1 ≤ a2 then (some (1, q_1.2)) else ((am_ix ((h_rI q_1.2 5 0 3) + a2) 120).bind (fun k_2 => (f_J0_charAt_5068e a1 a2 q_1.2).bind (fun q_3 => if h_rI q_1.2 11 0 k_2 = q_3.1 then (g_X5_isWord_28 n a1 (a2 + 1) q_3.2) else (some (0, q_3.2))))))
def pk_X5_isWord_28 (k : Nat → Int32 → HP → Option (Int32 × HP)) : List AV → List AV → HP → Option (Int32 × HP) := fun L st h => match L, st with
  | [.inr (.inr (.inl (5, 0))), .inr (.inr (.inl (16, a1))), .inl a2], [] => k a1 a2 h
  | _, _ => none
theorem pk_X5_isWord_28_ok {Wp : List AV → List AV → HP → Prop} {r : (Int32 × HP)} {k : Nat → Int32 → HP → Option (Int32 × HP)} (hk : ∀ (a1 : Nat) (a2 : Int32) (h : HP), k a1 a2 h = some r → Wp [.inr (.inr (.inl (5, 0))), .inr (.inr (.inl (16, a1))), .inl a2] [] h) : ∀ L st h, pk_X5_isWord_28 k L st h = some r → Wp L st h := by
  intro L st h q
  unfold pk_X5_isWord_28 at q
  split at q
  · exact hk _ _ _ q
  · cases q
noncomputable def f_X5_isWord (a1 : Nat) (h : HP) : Option (Int32 × HP) := if h_rI h 5 0 2 = (1 : Int32) then ((f_J0_length_8abf5 a1 h).bind (fun q_1 => if (h_rI h 5 0 4) - (h_rI h 5 0 3) = q_1.1 then (g_X5_isWord_28 am_fu a1 0 q_1.2) else (some (0, q_1.2)))) else (some (0, h))
noncomputable def fl_X5_isWord : List AV → HP → Option (Int32 × HP) := fun as h => match as with
  | [.inr (.inr (.inl (5, 0))), .inr (.inr (.inl (16, a1)))] => f_X5_isWord a1 h
  | _ => none
noncomputable def F_X5_isWord : AF := .inl fl_X5_isWord
set_option maxRecDepth 20000 in
theorem w_X5_isWord_28 {p : Program} {l : Launch} {e : Env} {R : Room} {s : State} {m : MethodId} {args : Array Value} {below : List Frame} {meth : Method} {c : Code} {cells slots : Nat} {G : AG} {Q : (Int32 × HP) → State → Prop} (CX : am_X p l e R s m args below meth c cells slots G 3 cX5_isWord RX5 am_tb P_X5_isWord am_rZ Q) {r : (Int32 × HP)} : ∀ (n : Nat) (a1 : Nat) (a2 : Int32) (h : HP), g_X5_isWord_28 n a1 a2 h = some r → am_W p l e R s m args below meth c cells slots G 3 (Q r) 28 [.inr (.inr (.inl (5, 0))), .inr (.inr (.inl (16, a1))), .inl a2] [] h := by
  intro n
  induction n with
  | zero =>
    intro a1 a2 h q
    have q9 : (none : Option (Int32 × HP)) = some r := q
    cases q9
  | succ n ih =>
    intro a1 a2 h q
    exact am_run_ok CX ok_X5_isWord (K := [(28, pk_X5_isWord_28 (g_X5_isWord_28 n))]) (am_K1 (Wp := am_W p l e R s m args below meth c cells slots G 3 (Q r)) (pk_X5_isWord_28_ok (Wp := am_W p l e R s m args below meth c cells slots G 3 (Q r) 28) ih) am_K0) 21 28 _ _ _ q
set_option maxRecDepth 20000 in
theorem b_X5_isWord (l : Launch) (G : AG) : am_B l G 3 cX5_isWord RX5 am_tb P_X5_isWord am_rZ fl_X5_isWord := by
  intro p e R s m args below meth c cells slots Q CX as h r q
  unfold fl_X5_isWord at q
  split at q
  · exact am_run_ok CX ok_X5_isWord (K := [(28, pk_X5_isWord_28 (g_X5_isWord_28 am_fu))]) (am_K1 (Wp := am_W p l e R s m args below meth c cells slots G 3 (Q r)) (pk_X5_isWord_28_ok (Wp := am_W p l e R s m args below meth c cells slots G 3 (Q r) 28) (w_X5_isWord_28 CX am_fu)) am_K0) 17 0 _ _ _ q
  · cases q
theorem s_X5_isWord : ∀ as h x, fl_X5_isWord as h = some x → (∀ k, (some 5 : Option Nat) = some k → ∃ (j : Nat) (as' : List AV), as = .inr (.inr (.inl (k, j))) :: as') ∧ (am_l0 as).length ≤ 3 := by
  intro as h x q
  unfold fl_X5_isWord at q
  split at q
  · exact ⟨fun k e => by cases e; exact ⟨_, _, rfl⟩, Nat.le_of_ble_eq_true rfl⟩
  · cases q
theorem M_X5_isWord (l : Launch) (G : AG) : am_M l G yX5_isWord cX5_isWord 3 (some .boolean) 4 85 (some 5) F_X5_isWord := am_M_of (f := fl_X5_isWord) (toR := fun x => (some (.inl x.1), x.2)) (P := P_X5_isWord) (Rr := am_rZ) (own := RX5) (by decide) rfl (fun _ _ => rfl) s_X5_isWord am_wrI am_rkZ pf_RX5 pk_RX5 ps_RX5 (List.forall_mem_cons.mpr ⟨cv_RX5_110 l G (by decide) (by decide), (List.forall_mem_cons.mpr ⟨cv_RX5_121 l G (by decide) (by decide), (fun _ q => by cases q)⟩)⟩) (fun _ q => by cases q) (fun _ q => by cases q) (b_X5_isWord l G)
theorem cv_RX5_46 (l : Launch) (G : AG) {fr lo : Nat} (h1 : 4 + 1 ≤ fr) (h2 : 8 + (3 + 11) + 85 ≤ lo) : am_cvOK l G RX5 fr lo (46, 2, F_X5_isWord) := ⟨yX5_isWord, cX5_isWord, 3, (some .boolean), 4, 85, 5, RX5, M_X5_isWord l G, ⟨(am_tb_mem (wd_13 _ (List.mem_of_getElem? (i := 11) rfl))), (am_tb_mem (wd_13 _ (List.mem_of_getElem? (i := 12) rfl))), (am_tb_mem (wd_0 _ (List.mem_of_getElem? (i := 6) rfl))), (am_tb_mem (wd_1 _ (List.mem_of_getElem? (i := 24) rfl))), (am_tb_mem (wd_13 _ (List.mem_of_getElem? (i := 13) rfl)))⟩, ⟨rfl, by decide, by decide, by decide +kernel⟩, Or.inl ⟨by decide, rfl⟩, h1, h2⟩
theorem cs_RX5_94 (l : Launch) (G : AG) {fr lo : Nat} (h1 : 0 + 1 ≤ fr) (h2 : 8 + (1 + 11) + 0 ≤ lo) : am_csOK l G RX5 fr lo (94, 1, F_X5_nameOf) := Or.inl ⟨yX5_nameOf, cX5_nameOf, 1, (some (.object "java/lang/String")), 0, 0, M_X5_nameOf l G, ⟨(am_tb_mem (wd_13 _ (List.mem_of_getElem? (i := 8) rfl))), (am_tb_mem (wd_13 _ (List.mem_of_getElem? (i := 9) rfl))), (am_tb_mem (wd_1 _ (List.mem_of_getElem? (i := 24) rfl))), (am_tb_mem (wd_13 _ (List.mem_of_getElem? (i := 10) rfl)))⟩, ⟨by decide, by decide, by decide +kernel⟩, h1, h2⟩
def C_X5_namedKind : List AC := [(0, .iconst 0, 1, []), (1, .istore_n 1, 2, []), (2, .iload_n 1, 3, []), (3, .bipush 6, 5, []), (5, .if_icmp .ge 22, 8, [27]), (8, .aload_n 0, 9, []), (9, .iload_n 1, 10, []), (10, .invokestatic 94, 13, []), (13, .invokevirtual 46, 16, []), (16, .ifCond .eq 5, 19, [21]), (19, .iload_n 1, 20, []), (20, .ireturn, 21, []), (21, .iinc 1 1, 24, []), (24, .goto (-22), 27, [2]), (27, .iconst (-1), 28, []), (28, .ireturn, 29, [])]
theorem ok_X5_namedKind : ∀ x ∈ C_X5_namedKind, am_ok cX5_namedKind 2 x = true := by decide +kernel
noncomputable def P_X5_namedKind : AP := (PF_RX5, PK_RX5, PS_RX5, [(46, 2, F_X5_isWord)], [(94, 1, F_X5_nameOf)], [])
noncomputable def g_X5_namedKind_2  : Nat → Int32 → HP → Option (Int32 × HP)
  | 0, _, _ => none
  | n + 1, a1, h => if (6 : Int32) ≤ a1 then (some ((-1), h)) else ((f_X5_nameOf a1 h).bind (fun q_1 => (f_X5_isWord q_1.1 q_1.2).bind (fun q_2 => if q_2.1 = (0 : Int32) then (g_X5_namedKind_2 n (a1 + 1) q_2.2) else (some (a1, q_2.2)))))
def pk_X5_namedKind_2 (k : Int32 → HP → Option (Int32 × HP)) : List AV → List AV → HP → Option (Int32 × HP) := fun L st h => match L, st with
  | [.inr (.inr (.inl (5, 0))), .inl a1], [] => k a1 h
  | _, _ => none
theorem pk_X5_namedKind_2_ok {Wp : List AV → List AV → HP → Prop} {r : (Int32 × HP)} {k : Int32 → HP → Option (Int32 × HP)} (hk : ∀ (a1 : Int32) (h : HP), k a1 h = some r → Wp [.inr (.inr (.inl (5, 0))), .inl a1] [] h) : ∀ L st h, pk_X5_namedKind_2 k L st h = some r → Wp L st h := by
  intro L st h q
  unfold pk_X5_namedKind_2 at q
  split at q
  · exact hk _ _ q
  · cases q
noncomputable def f_X5_namedKind  (h : HP) : Option (Int32 × HP) := g_X5_namedKind_2 am_fu 0 h
noncomputable def fl_X5_namedKind : List AV → HP → Option (Int32 × HP) := fun as h => match as with
  | [.inr (.inr (.inl (5, 0)))] => f_X5_namedKind h
  | _ => none
noncomputable def F_X5_namedKind : AF := .inl fl_X5_namedKind
set_option maxRecDepth 20000 in
theorem w_X5_namedKind_2 {p : Program} {l : Launch} {e : Env} {R : Room} {s : State} {m : MethodId} {args : Array Value} {below : List Frame} {meth : Method} {c : Code} {cells slots : Nat} {G : AG} {Q : (Int32 × HP) → State → Prop} (CX : am_X p l e R s m args below meth c cells slots G 2 cX5_namedKind RX5 am_tb P_X5_namedKind am_rI Q) {r : (Int32 × HP)} : ∀ (n : Nat) (a1 : Int32) (h : HP), g_X5_namedKind_2 n a1 h = some r → am_W p l e R s m args below meth c cells slots G 2 (Q r) 2 [.inr (.inr (.inl (5, 0))), .inl a1] [] h := by
  intro n
  induction n with
  | zero =>
    intro a1 h q
    have q9 : (none : Option (Int32 × HP)) = some r := q
    cases q9
  | succ n ih =>
    intro a1 h q
    exact am_run_ok CX ok_X5_namedKind (K := [(2, pk_X5_namedKind_2 (g_X5_namedKind_2 n))]) (am_K1 (Wp := am_W p l e R s m args below meth c cells slots G 2 (Q r)) (pk_X5_namedKind_2_ok (Wp := am_W p l e R s m args below meth c cells slots G 2 (Q r) 2) ih) am_K0) 13 2 _ _ _ q
set_option maxRecDepth 20000 in
theorem b_X5_namedKind (l : Launch) (G : AG) : am_B l G 2 cX5_namedKind RX5 am_tb P_X5_namedKind am_rI fl_X5_namedKind := by
  intro p e R s m args below meth c cells slots Q CX as h r q
  unfold fl_X5_namedKind at q
  split at q
  · exact am_run_ok CX ok_X5_namedKind (K := [(2, pk_X5_namedKind_2 (g_X5_namedKind_2 am_fu))]) (am_K1 (Wp := am_W p l e R s m args below meth c cells slots G 2 (Q r)) (pk_X5_namedKind_2_ok (Wp := am_W p l e R s m args below meth c cells slots G 2 (Q r) 2) (w_X5_namedKind_2 CX am_fu)) am_K0) 5 0 _ _ _ q
  · cases q
theorem s_X5_namedKind : ∀ as h x, fl_X5_namedKind as h = some x → (∀ k, (some 5 : Option Nat) = some k → ∃ (j : Nat) (as' : List AV), as = .inr (.inr (.inl (k, j))) :: as') ∧ (am_l0 as).length ≤ 2 := by
  intro as h x q
  unfold fl_X5_namedKind at q
  split at q
  · exact ⟨fun k e => by cases e; exact ⟨_, _, rfl⟩, Nat.le_of_ble_eq_true rfl⟩
  · cases q
theorem M_X5_namedKind (l : Launch) (G : AG) : am_M l G yX5_namedKind cX5_namedKind 2 (some .int) 5 107 (some 5) F_X5_namedKind := am_M_of (f := fl_X5_namedKind) (toR := fun x => (some (.inl x.1), x.2)) (P := P_X5_namedKind) (Rr := am_rI) (own := RX5) (by decide) rfl (fun _ _ => rfl) s_X5_namedKind am_wrI am_rkI pf_RX5 pk_RX5 ps_RX5 (List.forall_mem_cons.mpr ⟨cv_RX5_46 l G (by decide) (by decide), (fun _ q => by cases q)⟩) (List.forall_mem_cons.mpr ⟨cs_RX5_94 l G (by decide) (by decide), (fun _ q => by cases q)⟩) (fun _ q => by cases q) (b_X5_namedKind l G)
theorem cv_RX5_23 (l : Launch) (G : AG) {fr lo : Nat} (h1 : 2 + 1 ≤ fr) (h2 : 8 + (2 + 11) + 43 ≤ lo) : am_cvOK l G RX5 fr lo (23, 1, F_X5_step) := ⟨yX5_step, cX5_step, 2, none, 2, 43, 5, RX5, M_X5_step l G, ⟨(am_tb_mem (wd_12 _ (List.mem_of_getElem? (i := 32) rfl))), (am_tb_mem (wd_12 _ (List.mem_of_getElem? (i := 33) rfl))), (am_tb_mem (wd_0 _ (List.mem_of_getElem? (i := 2) rfl))), (am_tb_mem (wd_1 _ (List.mem_of_getElem? (i := 24) rfl))), (am_tb_mem (wd_12 _ (List.mem_of_getElem? (i := 34) rfl)))⟩, ⟨rfl, by decide, by decide, by decide +kernel⟩, Or.inl ⟨by decide, rfl⟩, h1, h2⟩
def C_X5_takeWord : List AC := [(0, .aload_n 0, 1, []), (1, .aload_n 1, 2, []), (2, .invokevirtual 46, 5, []), (5, .ifCond .ne 5, 8, [10]), (8, .iconst 0, 9, []), (9, .ireturn, 10, []), (10, .aload_n 0, 11, []), (11, .invokevirtual 23, 14, []), (14, .iconst 1, 15, []), (15, .ireturn, 16, [])]
theorem ok_X5_takeWord : ∀ x ∈ C_X5_takeWord, am_ok cX5_takeWord 2 x = true := by decide +kernel
noncomputable def P_X5_takeWord : AP := (PF_RX5, PK_RX5, PS_RX5, [(23, 1, F_X5_step), (46, 2, F_X5_isWord)], [], [])
noncomputable def f_X5_takeWord (a1 : Nat) (h : HP) : Option (Int32 × HP) := (f_X5_isWord a1 h).bind (fun q_1 => if q_1.1 = (0 : Int32) then (some (0, q_1.2)) else ((f_X5_step q_1.2).bind (fun q_2 => some (1, q_2))))
noncomputable def fl_X5_takeWord : List AV → HP → Option (Int32 × HP) := fun as h => match as with
  | [.inr (.inr (.inl (5, 0))), .inr (.inr (.inl (16, a1)))] => f_X5_takeWord a1 h
  | _ => none
noncomputable def F_X5_takeWord : AF := .inl fl_X5_takeWord
set_option maxRecDepth 20000 in
theorem b_X5_takeWord (l : Launch) (G : AG) : am_B l G 2 cX5_takeWord RX5 am_tb P_X5_takeWord am_rZ fl_X5_takeWord := by
  intro p e R s m args below meth c cells slots Q CX as h r q
  unfold fl_X5_takeWord at q
  split at q
  · exact am_run_ok CX ok_X5_takeWord (K := []) (am_K0 (Wp := am_W p l e R s m args below meth c cells slots G 2 (Q r))) 11 0 _ _ _ q
  · cases q
theorem s_X5_takeWord : ∀ as h x, fl_X5_takeWord as h = some x → (∀ k, (some 5 : Option Nat) = some k → ∃ (j : Nat) (as' : List AV), as = .inr (.inr (.inl (k, j))) :: as') ∧ (am_l0 as).length ≤ 2 := by
  intro as h x q
  unfold fl_X5_takeWord at q
  split at q
  · exact ⟨fun k e => by cases e; exact ⟨_, _, rfl⟩, Nat.le_of_ble_eq_true rfl⟩
  · cases q
theorem M_X5_takeWord (l : Launch) (G : AG) : am_M l G yX5_takeWord cX5_takeWord 2 (some .boolean) 5 107 (some 5) F_X5_takeWord := am_M_of (f := fl_X5_takeWord) (toR := fun x => (some (.inl x.1), x.2)) (P := P_X5_takeWord) (Rr := am_rZ) (own := RX5) (by decide) rfl (fun _ _ => rfl) s_X5_takeWord am_wrI am_rkZ pf_RX5 pk_RX5 ps_RX5 (List.forall_mem_cons.mpr ⟨cv_RX5_23 l G (by decide) (by decide), (List.forall_mem_cons.mpr ⟨cv_RX5_46 l G (by decide) (by decide), (fun _ q => by cases q)⟩)⟩) (fun _ q => by cases q) (fun _ q => by cases q) (b_X5_takeWord l G)
def C_X5_takeNumber : List AC := [(0, .aload_n 0, 1, []), (1, .getfield 30, 4, []), (4, .iconst 2, 5, []), (5, .if_icmp .ne 11, 8, [16]), (8, .aload_n 0, 9, []), (9, .getfield 91, 12, []), (12, .iload_n 1, 13, []), (13, .if_icmp .le 5, 16, [18]), (16, .iconst (-1), 17, []), (17, .ireturn, 18, []), (18, .aload_n 0, 19, []), (19, .getfield 91, 22, []), (22, .istore_n 2, 23, []), (23, .aload_n 0, 24, []), (24, .invokevirtual 23, 27, []), (27, .iload_n 2, 28, []), (28, .ireturn, 29, [])]
theorem ok_X5_takeNumber : ∀ x ∈ C_X5_takeNumber, am_ok cX5_takeNumber 3 x = true := by decide +kernel
noncomputable def P_X5_takeNumber : AP := (PF_RX5, PK_RX5, PS_RX5, [(23, 1, F_X5_step)], [], [])
noncomputable def f_X5_takeNumber (a1 : Int32) (h : HP) : Option (Int32 × HP) := if h_rI h 5 0 2 = (2 : Int32) then (if h_rI h 5 0 5 ≤ a1 then ((f_X5_step h).bind (fun q_1 => some (h_rI h 5 0 5, q_1))) else (some ((-1), h))) else (some ((-1), h))
noncomputable def fl_X5_takeNumber : List AV → HP → Option (Int32 × HP) := fun as h => match as with
  | [.inr (.inr (.inl (5, 0))), .inl a1] => f_X5_takeNumber a1 h
  | _ => none
noncomputable def F_X5_takeNumber : AF := .inl fl_X5_takeNumber
set_option maxRecDepth 20000 in
theorem b_X5_takeNumber (l : Launch) (G : AG) : am_B l G 3 cX5_takeNumber RX5 am_tb P_X5_takeNumber am_rI fl_X5_takeNumber := by
  intro p e R s m args below meth c cells slots Q CX as h r q
  unfold fl_X5_takeNumber at q
  split at q
  · exact am_run_ok CX ok_X5_takeNumber (K := []) (am_K0 (Wp := am_W p l e R s m args below meth c cells slots G 3 (Q r))) 18 0 _ _ _ q
  · cases q
theorem s_X5_takeNumber : ∀ as h x, fl_X5_takeNumber as h = some x → (∀ k, (some 5 : Option Nat) = some k → ∃ (j : Nat) (as' : List AV), as = .inr (.inr (.inl (k, j))) :: as') ∧ (am_l0 as).length ≤ 3 := by
  intro as h x q
  unfold fl_X5_takeNumber at q
  split at q
  · exact ⟨fun k e => by cases e; exact ⟨_, _, rfl⟩, Nat.le_of_ble_eq_true rfl⟩
  · cases q
theorem M_X5_takeNumber (l : Launch) (G : AG) : am_M l G yX5_takeNumber cX5_takeNumber 3 (some .int) 3 64 (some 5) F_X5_takeNumber := am_M_of (f := fl_X5_takeNumber) (toR := fun x => (some (.inl x.1), x.2)) (P := P_X5_takeNumber) (Rr := am_rI) (own := RX5) (by decide) rfl (fun _ _ => rfl) s_X5_takeNumber am_wrI am_rkI pf_RX5 pk_RX5 ps_RX5 (List.forall_mem_cons.mpr ⟨cv_RX5_23 l G (by decide) (by decide), (fun _ q => by cases q)⟩) (fun _ q => by cases q) (fun _ q => by cases q) (b_X5_takeNumber l G)
theorem cv_RX5_55 (l : Launch) (G : AG) {fr lo : Nat} (h1 : 5 + 1 ≤ fr) (h2 : 8 + (2 + 11) + 107 ≤ lo) : am_cvOK l G RX5 fr lo (55, 2, F_X5_takeWord) := ⟨yX5_takeWord, cX5_takeWord, 2, (some .boolean), 5, 107, 5, RX5, M_X5_takeWord l G, ⟨(am_tb_mem (wd_14 _ (List.mem_of_getElem? (i := 5) rfl))), (am_tb_mem (wd_14 _ (List.mem_of_getElem? (i := 6) rfl))), (am_tb_mem (wd_0 _ (List.mem_of_getElem? (i := 8) rfl))), (am_tb_mem (wd_1 _ (List.mem_of_getElem? (i := 24) rfl))), (am_tb_mem (wd_14 _ (List.mem_of_getElem? (i := 7) rfl)))⟩, ⟨rfl, by decide, by decide, by decide +kernel⟩, Or.inl ⟨by decide, rfl⟩, h1, h2⟩
theorem cv_RX5_61 (l : Launch) (G : AG) {fr lo : Nat} (h1 : 0 + 1 ≤ fr) (h2 : 8 + (1 + 11) + 0 ≤ lo) : am_cvOK l G RX5 fr lo (61, 1, F_X1_hasPlaceForHandle) := ⟨yX1_hasPlaceForHandle, cX1_hasPlaceForHandle, 1, (some .boolean), 0, 0, 1, RX1, M_X1_hasPlaceForHandle l G, ⟨(am_tb_mem (wd_14 _ (List.mem_of_getElem? (i := 4) rfl))), (am_tb_mem (wd_4 _ (List.mem_of_getElem? (i := 23) rfl))), (am_tb_mem (wd_4 _ (List.mem_of_getElem? (i := 24) rfl))), (am_tb_mem (wd_1 _ (List.mem_of_getElem? (i := 20) rfl))), (am_tb_mem (wd_4 _ (List.mem_of_getElem? (i := 25) rfl)))⟩, ⟨rfl, by decide, by decide, by decide +kernel⟩, Or.inl ⟨by decide, rfl⟩, h1, h2⟩
theorem cv_RX5_68 (l : Launch) (G : AG) {fr lo : Nat} (h1 : 3 + 1 ≤ fr) (h2 : 8 + (3 + 11) + 64 ≤ lo) : am_cvOK l G RX5 fr lo (68, 2, F_X5_takeNumber) := ⟨yX5_takeNumber, cX5_takeNumber, 3, (some .int), 3, 64, 5, RX5, M_X5_takeNumber l G, ⟨(am_tb_mem (wd_14 _ (List.mem_of_getElem? (i := 8) rfl))), (am_tb_mem (wd_14 _ (List.mem_of_getElem? (i := 9) rfl))), (am_tb_mem (wd_0 _ (List.mem_of_getElem? (i := 9) rfl))), (am_tb_mem (wd_1 _ (List.mem_of_getElem? (i := 24) rfl))), (am_tb_mem (wd_14 _ (List.mem_of_getElem? (i := 10) rfl)))⟩, ⟨rfl, by decide, by decide, by decide +kernel⟩, Or.inl ⟨by decide, rfl⟩, h1, h2⟩
theorem cv_RX5_76 (l : Launch) (G : AG) {fr lo : Nat} (h1 : 0 + 1 ≤ fr) (h2 : 8 + (6 + 11) + 0 ≤ lo) : am_cvOK l G RX5 fr lo (76, 5, F_X1_addHandle) := ⟨yX1_addHandle, cX1_addHandle, 6, (some .int), 0, 0, 1, RX1, M_X1_addHandle l G, ⟨(am_tb_mem (wd_14 _ (List.mem_of_getElem? (i := 11) rfl))), (am_tb_mem (wd_4 _ (List.mem_of_getElem? (i := 28) rfl))), (am_tb_mem (wd_4 _ (List.mem_of_getElem? (i := 29) rfl))), (am_tb_mem (wd_1 _ (List.mem_of_getElem? (i := 20) rfl))), (am_tb_mem (wd_4 _ (List.mem_of_getElem? (i := 30) rfl)))⟩, ⟨rfl, by decide, by decide, by decide +kernel⟩, Or.inl ⟨by decide, rfl⟩, h1, h2⟩
def C_X5_takeHandle : List AC := [(0, .aload_n 0, 1, []), (1, .getfield 15, 4, []), (4, .invokevirtual 61, 7, []), (7, .ifCond .ne 5, 10, [12]), (10, .iconst 0, 11, []), (11, .ireturn, 12, []), (12, .aload_n 0, 13, []), (13, .invokevirtual 23, 16, []), (16, .aload_n 0, 17, []), (17, .ldc 66, 19, []), (19, .invokevirtual 55, 22, []), (22, .ifCond .ne 5, 25, [27]), (25, .iconst 0, 26, []), (26, .ireturn, 27, []), (27, .aload_n 0, 28, []), (28, .bipush 15, 30, []), (30, .invokevirtual 68, 33, []), (33, .istore_n 2, 34, []), (34, .iload_n 2, 35, []), (35, .iconst (-1), 36, []), (36, .if_icmp .eq 12, 39, [48]), (39, .aload_n 0, 40, []), (40, .ldc 72, 42, []), (42, .invokevirtual 55, 45, []), (45, .ifCond .ne 5, 48, [50]), (48, .iconst 0, 49, []), (49, .ireturn, 50, []), (50, .aload_n 0, 51, []), (51, .bipush 15, 53, []), (53, .invokevirtual 68, 56, []), (56, .istore_n 3, 57, []), (57, .iload_n 3, 58, []), (58, .iconst (-1), 59, []), (59, .if_icmp .ne 5, 62, [64]), (62, .iconst 0, 63, []), (63, .ireturn, 64, []), (64, .aload_n 0, 65, []), (65, .ldc 74, 67, []), (67, .invokevirtual 55, 70, []), (70, .ifCond .eq 12, 73, [82]), (73, .aload_n 0, 74, []), (74, .bipush 99, 76, []), (76, .invokevirtual 68, 79, []), (79, .goto 4, 82, [83]), (82, .iconst 0, 83, []), (83, .istore 4, 85, []), (85, .iload 4, 87, []), (87, .iconst (-1), 88, []), (88, .if_icmp .ne 5, 91, [93]), (91, .iconst 0, 92, []), (92, .ireturn, 93, []), (93, .aload_n 0, 94, []), (94, .getfield 15, 97, []), (97, .iload_n 1, 98, []), (98, .iload_n 2, 99, []), (99, .iload_n 3, 100, []), (100, .iload 4, 102, []), (102, .invokevirtual 76, 105, []), (105, .pop, 106, []), (106, .iconst 1, 107, []), (107, .ireturn, 108, [])]
theorem ok_X5_takeHandle : ∀ x ∈ C_X5_takeHandle, am_ok cX5_takeHandle 5 x = true := by decide +kernel
noncomputable def P_X5_takeHandle : AP := (PF_RX5, PK_RX5, PS_RX5, [(23, 1, F_X5_step), (55, 2, F_X5_takeWord), (61, 1, F_X1_hasPlaceForHandle), (68, 2, F_X5_takeNumber), (76, 5, F_X1_addHandle)], [], [])
noncomputable def g_X5_takeHandle_83 (a1 : Int32) (a2 : Int32) (a3 : Int32) (a4 : Int32) (h : HP) : Option (Int32 × HP) := if a4 = ((-1) : Int32) then (some (0, h)) else ((f_X1_addHandle 1 a1 a2 a3 a4 h).bind (fun q_1 => some (1, q_1.2)))
def pk_X5_takeHandle_83 (k : Int32 → Int32 → Int32 → Int32 → HP → Option (Int32 × HP)) : List AV → List AV → HP → Option (Int32 × HP) := fun L st h => match L, st with
  | [.inr (.inr (.inl (5, 0))), .inl a1, .inl a2, .inl a3, .inr (.inr (.inr ()))], [.inl a4] => k a1 a2 a3 a4 h
  | _, _ => none
theorem pk_X5_takeHandle_83_ok {Wp : List AV → List AV → HP → Prop} {r : (Int32 × HP)} {k : Int32 → Int32 → Int32 → Int32 → HP → Option (Int32 × HP)} (hk : ∀ (a1 : Int32) (a2 : Int32) (a3 : Int32) (a4 : Int32) (h : HP), k a1 a2 a3 a4 h = some r → Wp [.inr (.inr (.inl (5, 0))), .inl a1, .inl a2, .inl a3, .inr (.inr (.inr ()))] [.inl a4] h) : ∀ L st h, pk_X5_takeHandle_83 k L st h = some r → Wp L st h := by
  intro L st h q
  unfold pk_X5_takeHandle_83 at q
  split at q
  · exact hk _ _ _ _ _ q
  · cases q
noncomputable def f_X5_takeHandle (a1 : Int32) (h : HP) : Option (Int32 × HP) := (f_X1_hasPlaceForHandle 1 h).bind (fun q_1 => if q_1.1 = (0 : Int32) then (some (0, q_1.2)) else ((f_X5_step q_1.2).bind (fun q_2 => (f_X5_takeWord 2 q_2).bind (fun q_3 => if q_3.1 = (0 : Int32) then (some (0, q_3.2)) else ((f_X5_takeNumber 15 q_3.2).bind (fun q_4 => if q_4.1 = ((-1) : Int32) then (some (0, q_4.2)) else ((f_X5_takeWord 3 q_4.2).bind (fun q_5 => if q_5.1 = (0 : Int32) then (some (0, q_5.2)) else ((f_X5_takeNumber 15 q_5.2).bind (fun q_6 => if q_6.1 = ((-1) : Int32) then (some (0, q_6.2)) else ((f_X5_takeWord 4 q_6.2).bind (fun q_7 => if q_7.1 = (0 : Int32) then (g_X5_takeHandle_83 a1 q_4.1 q_6.1 0 q_7.2) else ((f_X5_takeNumber 99 q_7.2).bind (fun q_8 => g_X5_takeHandle_83 a1 q_4.1 q_6.1 q_8.1 q_8.2))))))))))))))
noncomputable def fl_X5_takeHandle : List AV → HP → Option (Int32 × HP) := fun as h => match as with
  | [.inr (.inr (.inl (5, 0))), .inl a1] => f_X5_takeHandle a1 h
  | _ => none
noncomputable def F_X5_takeHandle : AF := .inl fl_X5_takeHandle
set_option maxRecDepth 20000 in
theorem w_X5_takeHandle_83 {p : Program} {l : Launch} {e : Env} {R : Room} {s : State} {m : MethodId} {args : Array Value} {below : List Frame} {meth : Method} {c : Code} {cells slots : Nat} {G : AG} {Q : (Int32 × HP) → State → Prop} (CX : am_X p l e R s m args below meth c cells slots G 5 cX5_takeHandle RX5 am_tb P_X5_takeHandle am_rZ Q) {r : (Int32 × HP)} : ∀ (a1 : Int32) (a2 : Int32) (a3 : Int32) (a4 : Int32) (h : HP), g_X5_takeHandle_83 a1 a2 a3 a4 h = some r → am_W p l e R s m args below meth c cells slots G 5 (Q r) 83 [.inr (.inr (.inl (5, 0))), .inl a1, .inl a2, .inl a3, .inr (.inr (.inr ()))] [.inl a4] h := by
  intro a1 a2 a3 a4 h q
  exact am_run_ok CX ok_X5_takeHandle (K := []) (am_K0 (Wp := am_W p l e R s m args below meth c cells slots G 5 (Q r))) 17 83 _ _ _ q
set_option maxRecDepth 20000 in
theorem b_X5_takeHandle (l : Launch) (G : AG) : am_B l G 5 cX5_takeHandle RX5 am_tb P_X5_takeHandle am_rZ fl_X5_takeHandle := by
  intro p e R s m args below meth c cells slots Q CX as h r q
  unfold fl_X5_takeHandle at q
  split at q
  · exact am_run_ok CX ok_X5_takeHandle (K := [(83, pk_X5_takeHandle_83 (g_X5_takeHandle_83))]) (am_K1 (Wp := am_W p l e R s m args below meth c cells slots G 5 (Q r)) (pk_X5_takeHandle_83_ok (Wp := am_W p l e R s m args below meth c cells slots G 5 (Q r) 83) (w_X5_takeHandle_83 CX)) am_K0) 39 0 _ _ _ q
  · cases q
theorem s_X5_takeHandle : ∀ as h x, fl_X5_takeHandle as h = some x → (∀ k, (some 5 : Option Nat) = some k → ∃ (j : Nat) (as' : List AV), as = .inr (.inr (.inl (k, j))) :: as') ∧ (am_l0 as).length ≤ 5 := by
  intro as h x q
  unfold fl_X5_takeHandle at q
  split at q
  · exact ⟨fun k e => by cases e; exact ⟨_, _, rfl⟩, Nat.le_of_ble_eq_true rfl⟩
  · cases q
theorem M_X5_takeHandle (l : Launch) (G : AG) : am_M l G yX5_takeHandle cX5_takeHandle 5 (some .boolean) 6 128 (some 5) F_X5_takeHandle := am_M_of (f := fl_X5_takeHandle) (toR := fun x => (some (.inl x.1), x.2)) (P := P_X5_takeHandle) (Rr := am_rZ) (own := RX5) (by decide) rfl (fun _ _ => rfl) s_X5_takeHandle am_wrI am_rkZ pf_RX5 pk_RX5 ps_RX5 (List.forall_mem_cons.mpr ⟨cv_RX5_23 l G (by decide) (by decide), (List.forall_mem_cons.mpr ⟨cv_RX5_55 l G (by decide) (by decide), (List.forall_mem_cons.mpr ⟨cv_RX5_61 l G (by decide) (by decide), (List.forall_mem_cons.mpr ⟨cv_RX5_68 l G (by decide) (by decide), (List.forall_mem_cons.mpr ⟨cv_RX5_76 l G (by decide) (by decide), (fun _ q => by cases q)⟩)⟩)⟩)⟩)⟩) (fun _ q => by cases q) (fun _ q => by cases q) (b_X5_takeHandle l G)
theorem cv_RX5_80 (l : Launch) (G : AG) {fr lo : Nat} (h1 : 0 + 1 ≤ fr) (h2 : 8 + (1 + 11) + 0 ≤ lo) : am_cvOK l G RX5 fr lo (80, 1, F_X1_hasPlaceForMember) := ⟨yX1_hasPlaceForMember, cX1_hasPlaceForMember, 1, (some .boolean), 0, 0, 1, RX1, M_X1_hasPlaceForMember l G, ⟨(am_tb_mem (wd_14 _ (List.mem_of_getElem? (i := 15) rfl))), (am_tb_mem (wd_6 _ (List.mem_of_getElem? (i := 30) rfl))), (am_tb_mem (wd_6 _ (List.mem_of_getElem? (i := 31) rfl))), (am_tb_mem (wd_1 _ (List.mem_of_getElem? (i := 20) rfl))), (am_tb_mem (wd_6 _ (List.mem_of_getElem? (i := 32) rfl)))⟩, ⟨rfl, by decide, by decide, by decide +kernel⟩, Or.inl ⟨by decide, rfl⟩, h1, h2⟩
theorem cv_RX5_85 (l : Launch) (G : AG) {fr lo : Nat} (h1 : 0 + 1 ≤ fr) (h2 : 8 + (2 + 11) + 0 ≤ lo) : am_cvOK l G RX5 fr lo (85, 2, F_X1_addMember) := ⟨yX1_addMember, cX1_addMember, 2, (some .int), 0, 0, 1, RX1, M_X1_addMember l G, ⟨(am_tb_mem (wd_14 _ (List.mem_of_getElem? (i := 16) rfl))), (am_tb_mem (wd_6 _ (List.mem_of_getElem? (i := 34) rfl))), (am_tb_mem (wd_6 _ (List.mem_of_getElem? (i := 35) rfl))), (am_tb_mem (wd_1 _ (List.mem_of_getElem? (i := 20) rfl))), (am_tb_mem (wd_6 _ (List.mem_of_getElem? (i := 36) rfl)))⟩, ⟨rfl, by decide, by decide, by decide +kernel⟩, Or.inl ⟨by decide, rfl⟩, h1, h2⟩
def C_X5_takeMember : List AC := [(0, .aload_n 0, 1, []), (1, .getfield 15, 4, []), (4, .invokevirtual 80, 7, []), (7, .ifCond .ne 5, 10, [12]), (10, .iconst 0, 11, []), (11, .ireturn, 12, []), (12, .aload_n 0, 13, []), (13, .invokevirtual 23, 16, []), (16, .aload_n 0, 17, []), (17, .ldc 83, 19, []), (19, .invokevirtual 55, 22, []), (22, .ifCond .eq 12, 25, [34]), (25, .aload_n 0, 26, []), (26, .bipush 15, 28, []), (28, .invokevirtual 68, 31, []), (31, .goto 4, 34, [35]), (34, .iconst 0, 35, []), (35, .istore_n 1, 36, []), (36, .iload_n 1, 37, []), (37, .iconst (-1), 38, []), (38, .if_icmp .ne 5, 41, [43]), (41, .iconst 0, 42, []), (42, .ireturn, 43, []), (43, .aload_n 0, 44, []), (44, .getfield 15, 47, []), (47, .iload_n 1, 48, []), (48, .invokevirtual 85, 51, []), (51, .pop, 52, []), (52, .iconst 1, 53, []), (53, .ireturn, 54, [])]
theorem ok_X5_takeMember : ∀ x ∈ C_X5_takeMember, am_ok cX5_takeMember 2 x = true := by decide +kernel
noncomputable def P_X5_takeMember : AP := (PF_RX5, PK_RX5, PS_RX5, [(23, 1, F_X5_step), (55, 2, F_X5_takeWord), (68, 2, F_X5_takeNumber), (80, 1, F_X1_hasPlaceForMember), (85, 2, F_X1_addMember)], [], [])
noncomputable def g_X5_takeMember_35 (a1 : Int32) (h : HP) : Option (Int32 × HP) := if a1 = ((-1) : Int32) then (some (0, h)) else ((f_X1_addMember 1 a1 h).bind (fun q_1 => some (1, q_1.2)))
def pk_X5_takeMember_35 (k : Int32 → HP → Option (Int32 × HP)) : List AV → List AV → HP → Option (Int32 × HP) := fun L st h => match L, st with
  | [.inr (.inr (.inl (5, 0))), .inr (.inr (.inr ()))], [.inl a1] => k a1 h
  | _, _ => none
theorem pk_X5_takeMember_35_ok {Wp : List AV → List AV → HP → Prop} {r : (Int32 × HP)} {k : Int32 → HP → Option (Int32 × HP)} (hk : ∀ (a1 : Int32) (h : HP), k a1 h = some r → Wp [.inr (.inr (.inl (5, 0))), .inr (.inr (.inr ()))] [.inl a1] h) : ∀ L st h, pk_X5_takeMember_35 k L st h = some r → Wp L st h := by
  intro L st h q
  unfold pk_X5_takeMember_35 at q
  split at q
  · exact hk _ _ q
  · cases q
noncomputable def f_X5_takeMember  (h : HP) : Option (Int32 × HP) := (f_X1_hasPlaceForMember 1 h).bind (fun q_1 => if q_1.1 = (0 : Int32) then (some (0, q_1.2)) else ((f_X5_step q_1.2).bind (fun q_2 => (f_X5_takeWord 5 q_2).bind (fun q_3 => if q_3.1 = (0 : Int32) then (g_X5_takeMember_35 0 q_3.2) else ((f_X5_takeNumber 15 q_3.2).bind (fun q_4 => g_X5_takeMember_35 q_4.1 q_4.2))))))
noncomputable def fl_X5_takeMember : List AV → HP → Option (Int32 × HP) := fun as h => match as with
  | [.inr (.inr (.inl (5, 0)))] => f_X5_takeMember h
  | _ => none
noncomputable def F_X5_takeMember : AF := .inl fl_X5_takeMember
set_option maxRecDepth 20000 in
theorem w_X5_takeMember_35 {p : Program} {l : Launch} {e : Env} {R : Room} {s : State} {m : MethodId} {args : Array Value} {below : List Frame} {meth : Method} {c : Code} {cells slots : Nat} {G : AG} {Q : (Int32 × HP) → State → Prop} (CX : am_X p l e R s m args below meth c cells slots G 2 cX5_takeMember RX5 am_tb P_X5_takeMember am_rZ Q) {r : (Int32 × HP)} : ∀ (a1 : Int32) (h : HP), g_X5_takeMember_35 a1 h = some r → am_W p l e R s m args below meth c cells slots G 2 (Q r) 35 [.inr (.inr (.inl (5, 0))), .inr (.inr (.inr ()))] [.inl a1] h := by
  intro a1 h q
  exact am_run_ok CX ok_X5_takeMember (K := []) (am_K0 (Wp := am_W p l e R s m args below meth c cells slots G 2 (Q r))) 14 35 _ _ _ q
set_option maxRecDepth 20000 in
theorem b_X5_takeMember (l : Launch) (G : AG) : am_B l G 2 cX5_takeMember RX5 am_tb P_X5_takeMember am_rZ fl_X5_takeMember := by
  intro p e R s m args below meth c cells slots Q CX as h r q
  unfold fl_X5_takeMember at q
  split at q
  · exact am_run_ok CX ok_X5_takeMember (K := [(35, pk_X5_takeMember_35 (g_X5_takeMember_35))]) (am_K1 (Wp := am_W p l e R s m args below meth c cells slots G 2 (Q r)) (pk_X5_takeMember_35_ok (Wp := am_W p l e R s m args below meth c cells slots G 2 (Q r) 35) (w_X5_takeMember_35 CX)) am_K0) 17 0 _ _ _ q
  · cases q
theorem s_X5_takeMember : ∀ as h x, fl_X5_takeMember as h = some x → (∀ k, (some 5 : Option Nat) = some k → ∃ (j : Nat) (as' : List AV), as = .inr (.inr (.inl (k, j))) :: as') ∧ (am_l0 as).length ≤ 2 := by
  intro as h x q
  unfold fl_X5_takeMember at q
  split at q
  · exact ⟨fun k e => by cases e; exact ⟨_, _, rfl⟩, Nat.le_of_ble_eq_true rfl⟩
  · cases q
theorem M_X5_takeMember (l : Launch) (G : AG) : am_M l G yX5_takeMember cX5_takeMember 2 (some .boolean) 6 128 (some 5) F_X5_takeMember := am_M_of (f := fl_X5_takeMember) (toR := fun x => (some (.inl x.1), x.2)) (P := P_X5_takeMember) (Rr := am_rZ) (own := RX5) (by decide) rfl (fun _ _ => rfl) s_X5_takeMember am_wrI am_rkZ pf_RX5 pk_RX5 ps_RX5 (List.forall_mem_cons.mpr ⟨cv_RX5_23 l G (by decide) (by decide), (List.forall_mem_cons.mpr ⟨cv_RX5_55 l G (by decide) (by decide), (List.forall_mem_cons.mpr ⟨cv_RX5_68 l G (by decide) (by decide), (List.forall_mem_cons.mpr ⟨cv_RX5_80 l G (by decide) (by decide), (List.forall_mem_cons.mpr ⟨cv_RX5_85 l G (by decide) (by decide), (fun _ q => by cases q)⟩)⟩)⟩)⟩)⟩) (fun _ q => by cases q) (fun _ q => by cases q) (b_X5_takeMember l G)
def C_X5_takeLoan : List AC := [(0, .aload_n 0, 1, []), (1, .bipush 30, 3, []), (3, .invokevirtual 68, 6, []), (6, .istore_n 1, 7, []), (7, .iload_n 1, 8, []), (8, .iconst (-1), 9, []), (9, .if_icmp .ne 5, 12, [14]), (12, .iconst 0, 13, []), (13, .ireturn, 14, []), (14, .aload_n 0, 15, []), (15, .getfield 15, 18, []), (18, .iload_n 1, 19, []), (19, .putfield 88, 22, []), (22, .iconst 1, 23, []), (23, .ireturn, 24, [])]
theorem ok_X5_takeLoan : ∀ x ∈ C_X5_takeLoan, am_ok cX5_takeLoan 2 x = true := by decide +kernel
noncomputable def P_X5_takeLoan : AP := (PF_RX5, PK_RX5, PS_RX5, [(68, 2, F_X5_takeNumber)], [], [])
noncomputable def f_X5_takeLoan  (h : HP) : Option (Int32 × HP) := (f_X5_takeNumber 30 h).bind (fun q_1 => if q_1.1 = ((-1) : Int32) then (some (0, q_1.2)) else (some (1, h_wI q_1.2 1 1 1 q_1.1)))
noncomputable def fl_X5_takeLoan : List AV → HP → Option (Int32 × HP) := fun as h => match as with
  | [.inr (.inr (.inl (5, 0)))] => f_X5_takeLoan h
  | _ => none
noncomputable def F_X5_takeLoan : AF := .inl fl_X5_takeLoan
set_option maxRecDepth 20000 in
theorem b_X5_takeLoan (l : Launch) (G : AG) : am_B l G 2 cX5_takeLoan RX5 am_tb P_X5_takeLoan am_rZ fl_X5_takeLoan := by
  intro p e R s m args below meth c cells slots Q CX as h r q
  unfold fl_X5_takeLoan at q
  split at q
  · exact am_run_ok CX ok_X5_takeLoan (K := []) (am_K0 (Wp := am_W p l e R s m args below meth c cells slots G 2 (Q r))) 16 0 _ _ _ q
  · cases q
theorem s_X5_takeLoan : ∀ as h x, fl_X5_takeLoan as h = some x → (∀ k, (some 5 : Option Nat) = some k → ∃ (j : Nat) (as' : List AV), as = .inr (.inr (.inl (k, j))) :: as') ∧ (am_l0 as).length ≤ 2 := by
  intro as h x q
  unfold fl_X5_takeLoan at q
  split at q
  · exact ⟨fun k e => by cases e; exact ⟨_, _, rfl⟩, Nat.le_of_ble_eq_true rfl⟩
  · cases q
theorem M_X5_takeLoan (l : Launch) (G : AG) : am_M l G yX5_takeLoan cX5_takeLoan 2 (some .boolean) 4 86 (some 5) F_X5_takeLoan := am_M_of (f := fl_X5_takeLoan) (toR := fun x => (some (.inl x.1), x.2)) (P := P_X5_takeLoan) (Rr := am_rZ) (own := RX5) (by decide) rfl (fun _ _ => rfl) s_X5_takeLoan am_wrI am_rkZ pf_RX5 pk_RX5 ps_RX5 (List.forall_mem_cons.mpr ⟨cv_RX5_68 l G (by decide) (by decide), (fun _ q => by cases q)⟩) (fun _ q => by cases q) (fun _ q => by cases q) (b_X5_takeLoan l G)
theorem cv_RX5_36 (l : Launch) (G : AG) {fr lo : Nat} (h1 : 5 + 1 ≤ fr) (h2 : 8 + (2 + 11) + 107 ≤ lo) : am_cvOK l G RX5 fr lo (36, 1, F_X5_namedKind) := ⟨yX5_namedKind, cX5_namedKind, 2, (some .int), 5, 107, 5, RX5, M_X5_namedKind l G, ⟨(am_tb_mem (wd_13 _ (List.mem_of_getElem? (i := 5) rfl))), (am_tb_mem (wd_13 _ (List.mem_of_getElem? (i := 6) rfl))), (am_tb_mem (wd_0 _ (List.mem_of_getElem? (i := 5) rfl))), (am_tb_mem (wd_1 _ (List.mem_of_getElem? (i := 24) rfl))), (am_tb_mem (wd_13 _ (List.mem_of_getElem? (i := 7) rfl)))⟩, ⟨rfl, by decide, by decide, by decide +kernel⟩, Or.inl ⟨by decide, rfl⟩, h1, h2⟩
theorem cv_RX5_40 (l : Launch) (G : AG) {fr lo : Nat} (h1 : 6 + 1 ≤ fr) (h2 : 8 + (5 + 11) + 128 ≤ lo) : am_cvOK l G RX5 fr lo (40, 2, F_X5_takeHandle) := ⟨yX5_takeHandle, cX5_takeHandle, 5, (some .boolean), 6, 128, 5, RX5, M_X5_takeHandle l G, ⟨(am_tb_mem (wd_14 _ (List.mem_of_getElem? (i := 1) rfl))), (am_tb_mem (wd_14 _ (List.mem_of_getElem? (i := 2) rfl))), (am_tb_mem (wd_0 _ (List.mem_of_getElem? (i := 7) rfl))), (am_tb_mem (wd_1 _ (List.mem_of_getElem? (i := 24) rfl))), (am_tb_mem (wd_14 _ (List.mem_of_getElem? (i := 3) rfl)))⟩, ⟨rfl, by decide, by decide, by decide +kernel⟩, Or.inl ⟨by decide, rfl⟩, h1, h2⟩
theorem cv_RX5_50 (l : Launch) (G : AG) {fr lo : Nat} (h1 : 6 + 1 ≤ fr) (h2 : 8 + (2 + 11) + 128 ≤ lo) : am_cvOK l G RX5 fr lo (50, 1, F_X5_takeMember) := ⟨yX5_takeMember, cX5_takeMember, 2, (some .boolean), 6, 128, 5, RX5, M_X5_takeMember l G, ⟨(am_tb_mem (wd_14 _ (List.mem_of_getElem? (i := 12) rfl))), (am_tb_mem (wd_14 _ (List.mem_of_getElem? (i := 13) rfl))), (am_tb_mem (wd_0 _ (List.mem_of_getElem? (i := 10) rfl))), (am_tb_mem (wd_1 _ (List.mem_of_getElem? (i := 24) rfl))), (am_tb_mem (wd_14 _ (List.mem_of_getElem? (i := 14) rfl)))⟩, ⟨rfl, by decide, by decide, by decide +kernel⟩, Or.inl ⟨by decide, rfl⟩, h1, h2⟩
theorem cv_RX5_58 (l : Launch) (G : AG) {fr lo : Nat} (h1 : 4 + 1 ≤ fr) (h2 : 8 + (2 + 11) + 86 ≤ lo) : am_cvOK l G RX5 fr lo (58, 1, F_X5_takeLoan) := ⟨yX5_takeLoan, cX5_takeLoan, 2, (some .boolean), 4, 86, 5, RX5, M_X5_takeLoan l G, ⟨(am_tb_mem (wd_14 _ (List.mem_of_getElem? (i := 17) rfl))), (am_tb_mem (wd_14 _ (List.mem_of_getElem? (i := 18) rfl))), (am_tb_mem (wd_0 _ (List.mem_of_getElem? (i := 11) rfl))), (am_tb_mem (wd_1 _ (List.mem_of_getElem? (i := 24) rfl))), (am_tb_mem (wd_14 _ (List.mem_of_getElem? (i := 19) rfl)))⟩, ⟨rfl, by decide, by decide, by decide +kernel⟩, Or.inl ⟨by decide, rfl⟩, h1, h2⟩
def C_X5_takeItem : List AC := [(0, .aload_n 0, 1, []), (1, .invokevirtual 36, 4, []), (4, .istore_n 1, 5, []), (5, .iload_n 1, 6, []), (6, .iconst (-1), 7, []), (7, .if_icmp .eq 9, 10, [16]), (10, .aload_n 0, 11, []), (11, .iload_n 1, 12, []), (12, .invokevirtual 40, 15, []), (15, .ireturn, 16, []), (16, .aload_n 0, 17, []), (17, .ldc 44, 19, []), (19, .invokevirtual 46, 22, []), (22, .ifCond .eq 8, 25, [30]), (25, .aload_n 0, 26, []), (26, .invokevirtual 50, 29, []), (29, .ireturn, 30, []), (30, .aload_n 0, 31, []), (31, .ldc 53, 33, []), (33, .invokevirtual 55, 36, []), (36, .ifCond .eq 14, 39, [50]), (39, .aload_n 0, 40, []), (40, .invokevirtual 58, 43, []), (43, .ifCond .eq 7, 46, [50]), (46, .iconst 1, 47, []), (47, .goto 4, 50, [51]), (50, .iconst 0, 51, []), (51, .ireturn, 52, [])]
theorem ok_X5_takeItem : ∀ x ∈ C_X5_takeItem, am_ok cX5_takeItem 2 x = true := by decide +kernel
noncomputable def P_X5_takeItem : AP := (PF_RX5, PK_RX5, PS_RX5, [(36, 1, F_X5_namedKind), (40, 2, F_X5_takeHandle), (46, 2, F_X5_isWord), (50, 1, F_X5_takeMember), (55, 2, F_X5_takeWord), (58, 1, F_X5_takeLoan)], [], [])
noncomputable def f_X5_takeItem  (h : HP) : Option (Int32 × HP) := (f_X5_namedKind h).bind (fun q_1 => if q_1.1 = ((-1) : Int32) then ((f_X5_isWord 0 q_1.2).bind (fun q_2 => if q_2.1 = (0 : Int32) then ((f_X5_takeWord 1 q_2.2).bind (fun q_3 => if q_3.1 = (0 : Int32) then (some (0, q_3.2)) else ((f_X5_takeLoan q_3.2).bind (fun q_4 => if q_4.1 = (0 : Int32) then (some (0, q_4.2)) else (some (1, q_4.2)))))) else ((f_X5_takeMember q_2.2).bind (fun q_5 => some (q_5.1 &&& 1, q_5.2))))) else ((f_X5_takeHandle q_1.1 q_1.2).bind (fun q_6 => some (q_6.1 &&& 1, q_6.2))))
noncomputable def fl_X5_takeItem : List AV → HP → Option (Int32 × HP) := fun as h => match as with
  | [.inr (.inr (.inl (5, 0)))] => f_X5_takeItem h
  | _ => none
noncomputable def F_X5_takeItem : AF := .inl fl_X5_takeItem
set_option maxRecDepth 20000 in
theorem b_X5_takeItem (l : Launch) (G : AG) : am_B l G 2 cX5_takeItem RX5 am_tb P_X5_takeItem am_rZ fl_X5_takeItem := by
  intro p e R s m args below meth c cells slots Q CX as h r q
  unfold fl_X5_takeItem at q
  split at q
  · exact am_run_ok CX ok_X5_takeItem (K := []) (am_K0 (Wp := am_W p l e R s m args below meth c cells slots G 2 (Q r))) 23 0 _ _ _ q
  · cases q
theorem s_X5_takeItem : ∀ as h x, fl_X5_takeItem as h = some x → (∀ k, (some 5 : Option Nat) = some k → ∃ (j : Nat) (as' : List AV), as = .inr (.inr (.inl (k, j))) :: as') ∧ (am_l0 as).length ≤ 2 := by
  intro as h x q
  unfold fl_X5_takeItem at q
  split at q
  · exact ⟨fun k e => by cases e; exact ⟨_, _, rfl⟩, Nat.le_of_ble_eq_true rfl⟩
  · cases q
theorem M_X5_takeItem (l : Launch) (G : AG) : am_M l G yX5_takeItem cX5_takeItem 2 (some .boolean) 7 152 (some 5) F_X5_takeItem := am_M_of (f := fl_X5_takeItem) (toR := fun x => (some (.inl x.1), x.2)) (P := P_X5_takeItem) (Rr := am_rZ) (own := RX5) (by decide) rfl (fun _ _ => rfl) s_X5_takeItem am_wrI am_rkZ pf_RX5 pk_RX5 ps_RX5 (List.forall_mem_cons.mpr ⟨cv_RX5_36 l G (by decide) (by decide), (List.forall_mem_cons.mpr ⟨cv_RX5_40 l G (by decide) (by decide), (List.forall_mem_cons.mpr ⟨cv_RX5_46 l G (by decide) (by decide), (List.forall_mem_cons.mpr ⟨cv_RX5_50 l G (by decide) (by decide), (List.forall_mem_cons.mpr ⟨cv_RX5_55 l G (by decide) (by decide), (List.forall_mem_cons.mpr ⟨cv_RX5_58 l G (by decide) (by decide), (fun _ q => by cases q)⟩)⟩)⟩)⟩)⟩)⟩) (fun _ q => by cases q) (fun _ q => by cases q) (b_X5_takeItem l G)
theorem cv_RX5_26 (l : Launch) (G : AG) {fr lo : Nat} (h1 : 7 + 1 ≤ fr) (h2 : 8 + (2 + 11) + 152 ≤ lo) : am_cvOK l G RX5 fr lo (26, 1, F_X5_takeItem) := ⟨yX5_takeItem, cX5_takeItem, 2, (some .boolean), 7, 152, 5, RX5, M_X5_takeItem l G, ⟨(am_tb_mem (wd_13 _ (List.mem_of_getElem? (i := 2) rfl))), (am_tb_mem (wd_13 _ (List.mem_of_getElem? (i := 3) rfl))), (am_tb_mem (wd_0 _ (List.mem_of_getElem? (i := 4) rfl))), (am_tb_mem (wd_1 _ (List.mem_of_getElem? (i := 24) rfl))), (am_tb_mem (wd_13 _ (List.mem_of_getElem? (i := 4) rfl)))⟩, ⟨rfl, by decide, by decide, by decide +kernel⟩, Or.inl ⟨by decide, rfl⟩, h1, h2⟩
def C_X5_parse : List AC := [(0, .aload_n 0, 1, []), (1, .iconst 0, 2, []), (2, .putfield 19, 5, []), (5, .aload_n 0, 6, []), (6, .invokevirtual 23, 9, []), (9, .iconst 1, 10, []), (10, .istore_n 1, 11, []), (11, .iload_n 1, 12, []), (12, .bipush 120, 14, []), (14, .if_icmp .gt 43, 17, [57]), (17, .aload_n 0, 18, []), (18, .invokevirtual 26, 21, []), (21, .ifCond .ne 6, 24, [27]), (24, .goto 33, 27, [57]), (27, .aload_n 0, 28, []), (28, .getfield 30, 31, []), (31, .ifCond .ne 5, 34, [36]), (34, .iload_n 1, 35, []), (35, .ireturn, 36, []), (36, .aload_n 0, 37, []), (37, .getfield 30, 40, []), (40, .iconst 3, 41, []), (41, .if_icmp .eq 6, 44, [47]), (44, .goto 13, 47, [57]), (47, .aload_n 0, 48, []), (48, .invokevirtual 23, 51, []), (51, .iinc 1 1, 54, []), (54, .goto (-43), 57, [11]), (57, .iconst (-1), 58, []), (58, .aload_n 0, 59, []), (59, .getfield 33, 62, []), (62, .isub, 63, []), (63, .ireturn, 64, [])]
theorem ok_X5_parse : ∀ x ∈ C_X5_parse, am_ok cX5_parse 2 x = true := by decide +kernel
noncomputable def P_X5_parse : AP := (PF_RX5, PK_RX5, PS_RX5, [(23, 1, F_X5_step), (26, 1, F_X5_takeItem)], [], [])
noncomputable def g_X5_parse_11  : Nat → Int32 → HP → Option (Int32 × HP)
  | 0, _, _ => none
  | n + 1, a1, h => if (120 : Int32) < a1 then (some (((-1)) - (h_rI h 5 0 3), h)) else ((f_X5_takeItem h).bind (fun q_1 => if q_1.1 = (0 : Int32) then (some (((-1)) - (h_rI q_1.2 5 0 3), q_1.2)) else (if h_rI q_1.2 5 0 2 = (0 : Int32) then (some (a1, q_1.2)) else (if h_rI q_1.2 5 0 2 = (3 : Int32) then ((f_X5_step q_1.2).bind (fun q_2 => g_X5_parse_11 n (a1 + 1) q_2)) else (some (((-1)) - (h_rI q_1.2 5 0 3), q_1.2))))))
def pk_X5_parse_11 (k : Int32 → HP → Option (Int32 × HP)) : List AV → List AV → HP → Option (Int32 × HP) := fun L st h => match L, st with
  | [.inr (.inr (.inl (5, 0))), .inl a1], [] => k a1 h
  | _, _ => none
theorem pk_X5_parse_11_ok {Wp : List AV → List AV → HP → Prop} {r : (Int32 × HP)} {k : Int32 → HP → Option (Int32 × HP)} (hk : ∀ (a1 : Int32) (h : HP), k a1 h = some r → Wp [.inr (.inr (.inl (5, 0))), .inl a1] [] h) : ∀ L st h, pk_X5_parse_11 k L st h = some r → Wp L st h := by
  intro L st h q
  unfold pk_X5_parse_11 at q
  split at q
  · exact hk _ _ q
  · cases q
noncomputable def f_X5_parse  (h : HP) : Option (Int32 × HP) := (f_X5_step (h_wI h 5 0 4 0)).bind (fun q_1 => g_X5_parse_11 am_fu 1 q_1)
noncomputable def fl_X5_parse : List AV → HP → Option (Int32 × HP) := fun as h => match as with
  | [.inr (.inr (.inl (5, 0)))] => f_X5_parse h
  | _ => none
noncomputable def F_X5_parse : AF := .inl fl_X5_parse
set_option maxRecDepth 20000 in
theorem w_X5_parse_11 {p : Program} {l : Launch} {e : Env} {R : Room} {s : State} {m : MethodId} {args : Array Value} {below : List Frame} {meth : Method} {c : Code} {cells slots : Nat} {G : AG} {Q : (Int32 × HP) → State → Prop} (CX : am_X p l e R s m args below meth c cells slots G 2 cX5_parse RX5 am_tb P_X5_parse am_rI Q) {r : (Int32 × HP)} : ∀ (n : Nat) (a1 : Int32) (h : HP), g_X5_parse_11 n a1 h = some r → am_W p l e R s m args below meth c cells slots G 2 (Q r) 11 [.inr (.inr (.inl (5, 0))), .inl a1] [] h := by
  intro n
  induction n with
  | zero =>
    intro a1 h q
    have q9 : (none : Option (Int32 × HP)) = some r := q
    cases q9
  | succ n ih =>
    intro a1 h q
    exact am_run_ok CX ok_X5_parse (K := [(11, pk_X5_parse_11 (g_X5_parse_11 n))]) (am_K1 (Wp := am_W p l e R s m args below meth c cells slots G 2 (Q r)) (pk_X5_parse_11_ok (Wp := am_W p l e R s m args below meth c cells slots G 2 (Q r) 11) ih) am_K0) 22 11 _ _ _ q
set_option maxRecDepth 20000 in
theorem b_X5_parse (l : Launch) (G : AG) : am_B l G 2 cX5_parse RX5 am_tb P_X5_parse am_rI fl_X5_parse := by
  intro p e R s m args below meth c cells slots Q CX as h r q
  unfold fl_X5_parse at q
  split at q
  · exact am_run_ok CX ok_X5_parse (K := [(11, pk_X5_parse_11 (g_X5_parse_11 am_fu))]) (am_K1 (Wp := am_W p l e R s m args below meth c cells slots G 2 (Q r)) (pk_X5_parse_11_ok (Wp := am_W p l e R s m args below meth c cells slots G 2 (Q r) 11) (w_X5_parse_11 CX am_fu)) am_K0) 10 0 _ _ _ q
  · cases q
theorem s_X5_parse : ∀ as h x, fl_X5_parse as h = some x → (∀ k, (some 5 : Option Nat) = some k → ∃ (j : Nat) (as' : List AV), as = .inr (.inr (.inl (k, j))) :: as') ∧ (am_l0 as).length ≤ 2 := by
  intro as h x q
  unfold fl_X5_parse at q
  split at q
  · exact ⟨fun k e => by cases e; exact ⟨_, _, rfl⟩, Nat.le_of_ble_eq_true rfl⟩
  · cases q
theorem M_X5_parse (l : Launch) (G : AG) : am_M l G yX5_parse cX5_parse 2 (some .int) 8 173 (some 5) F_X5_parse := am_M_of (f := fl_X5_parse) (toR := fun x => (some (.inl x.1), x.2)) (P := P_X5_parse) (Rr := am_rI) (own := RX5) (by decide) rfl (fun _ _ => rfl) s_X5_parse am_wrI am_rkI pf_RX5 pk_RX5 ps_RX5 (List.forall_mem_cons.mpr ⟨cv_RX5_23 l G (by decide) (by decide), (List.forall_mem_cons.mpr ⟨cv_RX5_26 l G (by decide) (by decide), (fun _ q => by cases q)⟩)⟩) (fun _ q => by cases q) (fun _ q => by cases q) (b_X5_parse l G)
