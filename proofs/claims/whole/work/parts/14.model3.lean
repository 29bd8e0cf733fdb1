/-! 14.model3 -/
def C_X7_wipe : List AC := [(0, .aload_n 0, 1, []), (1, .getfield 172, 4, []), (4, .istore_n 1, 5, []), (5, .aload_n 0, 6, []), (6, .iconst 0, 7, []), (7, .putfield 172, 10, []), (10, .iload_n 1, 11, []), (11, .ireturn, 12, [])]
theorem ok_X7_wipe : ∀ x ∈ C_X7_wipe, am_ok cX7_wipe 2 x = true := by decide +kernel
noncomputable def P_X7_wipe : AP := (PF_RX7, PK_RX7, PS_RX7, [], [], [])
noncomputable def f_X7_wipe  (h : HP) : Option (Int32 × HP) := some (h_rI h 7 0 4, h_wI h 7 0 4 0)
noncomputable def fl_X7_wipe : List AV → HP → Option (Int32 × HP) := fun as h => match as with
  | [.inr (.inr (.inl (7, 0)))] => f_X7_wipe h
  | _ => none
noncomputable def F_X7_wipe : AF := .inl fl_X7_wipe
set_option maxRecDepth 20000 in
theorem b_X7_wipe (l : Launch) (G : AG) : am_B l G 2 cX7_wipe RX7 am_tb P_X7_wipe am_rI fl_X7_wipe := by
  intro p e R s m args below meth c cells slots Q CX as h r q
  unfold fl_X7_wipe at q
  split at q
  · exact am_run_ok CX ok_X7_wipe (K := []) (am_K0 (Wp := am_W p l e R s m args below meth c cells slots G 2 (Q r))) 11 0 _ _ _ q
  · cases q
theorem s_X7_wipe : ∀ as h x, fl_X7_wipe as h = some x → (∀ k, (some 7 : Option Nat) = some k → ∃ (j : Nat) (as' : List AV), as = .inr (.inr (.inl (k, j))) :: as') ∧ (am_l0 as).length ≤ 2 := by
  intro as h x q
  unfold fl_X7_wipe at q
  split at q
  · exact ⟨fun k e => by cases e; exact ⟨_, _, rfl⟩, Nat.le_of_ble_eq_true rfl⟩
  · cases q
theorem M_X7_wipe (l : Launch) (G : AG) : am_M l G yX7_wipe cX7_wipe 2 (some .int) 0 0 (some 7) F_X7_wipe := am_M_of (f := fl_X7_wipe) (toR := fun x => (some (.inl x.1), x.2)) (P := P_X7_wipe) (Rr := am_rI) (own := RX7) (by decide) rfl (fun _ _ => rfl) s_X7_wipe am_wrI am_rkI pf_RX7 pk_RX7 ps_RX7 (fun _ q => by cases q) (fun _ q => by cases q) (fun _ q => by cases q) (b_X7_wipe l G)
def C_X7_byteAt : List AC := [(0, .iload_n 1, 1, []), (1, .aload_n 0, 2, []), (2, .getfield 172, 5, []), (5, .if_icmp .ge 12, 8, [17]), (8, .aload_n 0, 9, []), (9, .getfield 19, 12, []), (12, .iload_n 1, 13, []), (13, .iaload, 14, []), (14, .goto 4, 17, [18]), (17, .iconst (-1), 18, []), (18, .ireturn, 19, [])]
theorem ok_X7_byteAt : ∀ x ∈ C_X7_byteAt, am_ok cX7_byteAt 2 x = true := by decide +kernel
noncomputable def P_X7_byteAt : AP := (PF_RX7, PK_RX7, PS_RX7, [], [], [])
noncomputable def f_X7_byteAt (a1 : Int32) (h : HP) : Option (Int32 × HP) := if h_rI h 7 0 4 ≤ a1 then (some ((-1), h)) else ((am_ix a1 120).bind (fun k_1 => some (h_rI h 13 3 k_1, h)))
noncomputable def fl_X7_byteAt : List AV → HP → Option (Int32 × HP) := fun as h => match as with
  | [.inr (.inr (.inl (7, 0))), .inl a1] => f_X7_byteAt a1 h
  | _ => none
noncomputable def F_X7_byteAt : AF := .inl fl_X7_byteAt
set_option maxRecDepth 20000 in
theorem b_X7_byteAt (l : Launch) (G : AG) : am_B l G 2 cX7_byteAt RX7 am_tb P_X7_byteAt am_rI fl_X7_byteAt := by
  intro p e R s m args below meth c cells slots Q CX as h r q
  unfold fl_X7_byteAt at q
  split at q
  · exact am_run_ok CX ok_X7_byteAt (K := []) (am_K0 (Wp := am_W p l e R s m args below meth c cells slots G 2 (Q r))) 13 0 _ _ _ q
  · cases q
theorem s_X7_byteAt : ∀ as h x, fl_X7_byteAt as h = some x → (∀ k, (some 7 : Option Nat) = some k → ∃ (j : Nat) (as' : List AV), as = .inr (.inr (.inl (k, j))) :: as') ∧ (am_l0 as).length ≤ 2 := by
  intro as h x q
  unfold fl_X7_byteAt at q
  split at q
  · exact ⟨fun k e => by cases e; exact ⟨_, _, rfl⟩, Nat.le_of_ble_eq_true rfl⟩
  · cases q
theorem M_X7_byteAt (l : Launch) (G : AG) : am_M l G yX7_byteAt cX7_byteAt 2 (some .int) 0 0 (some 7) F_X7_byteAt := am_M_of (f := fl_X7_byteAt) (toR := fun x => (some (.inl x.1), x.2)) (P := P_X7_byteAt) (Rr := am_rI) (own := RX7) (by decide) rfl (fun _ _ => rfl) s_X7_byteAt am_wrI am_rkI pf_RX7 pk_RX7 ps_RX7 (fun _ q => by cases q) (fun _ q => by cases q) (fun _ q => by cases q) (b_X7_byteAt l G)
def C_X7_isLetter : List AC := [(0, .iload_n 0, 1, []), (1, .bipush 97, 3, []), (3, .bipush 122, 5, []), (5, .invokestatic 42, 8, []), (8, .ireturn, 9, [])]
theorem ok_X7_isLetter : ∀ x ∈ C_X7_isLetter, am_ok cX7_isLetter 1 x = true := by decide +kernel
noncomputable def P_X7_isLetter : AP := (PF_RX7, PK_RX7, PS_RX7, [], [(42, 3, F_X7_in)], [])
noncomputable def f_X7_isLetter (a1 : Int32) (h : HP) : Option (Int32 × HP) := (f_X7_in a1 97 122 h).bind (fun q_1 => some (q_1.1 &&& 1, q_1.2))
noncomputable def fl_X7_isLetter : List AV → HP → Option (Int32 × HP) := fun as h => match as with
  | [.inl a1] => f_X7_isLetter a1 h
  | _ => none
noncomputable def F_X7_isLetter : AF := .inl fl_X7_isLetter
set_option maxRecDepth 20000 in
theorem b_X7_isLetter (l : Launch) (G : AG) : am_B l G 1 cX7_isLetter RX7 am_tb P_X7_isLetter am_rZ fl_X7_isLetter := by
  intro p e R s m args below meth c cells slots Q CX as h r q
  unfold fl_X7_isLetter at q
  split at q
  · exact am_run_ok CX ok_X7_isLetter (K := []) (am_K0 (Wp := am_W p l e R s m args below meth c cells slots G 1 (Q r))) 8 0 _ _ _ q
  · cases q
theorem s_X7_isLetter : ∀ as h x, fl_X7_isLetter as h = some x → (∀ k, (none : Option Nat) = some k → ∃ (j : Nat) (as' : List AV), as = .inr (.inr (.inl (k, j))) :: as') ∧ (am_l0 as).length ≤ 1 := by
  intro as h x q
  unfold fl_X7_isLetter at q
  split at q
  · exact ⟨fun k e => (by cases e), Nat.le_of_ble_eq_true rfl⟩
  · cases q
theorem M_X7_isLetter (l : Launch) (G : AG) : am_M l G yX7_isLetter cX7_isLetter 1 (some .boolean) 1 22 none F_X7_isLetter := am_M_of (f := fl_X7_isLetter) (toR := fun x => (some (.inl x.1), x.2)) (P := P_X7_isLetter) (Rr := am_rZ) (own := RX7) (by decide) rfl (fun _ _ => rfl) s_X7_isLetter am_wrI am_rkZ pf_RX7 pk_RX7 ps_RX7 (fun _ q => by cases q) (List.forall_mem_cons.mpr ⟨cs_RX7_42 l G (by decide) (by decide), (fun _ q => by cases q)⟩) (fun _ q => by cases q) (b_X7_isLetter l G)
def C_X7_isDigit : List AC := [(0, .iload_n 0, 1, []), (1, .bipush 48, 3, []), (3, .bipush 57, 5, []), (5, .invokestatic 42, 8, []), (8, .ireturn, 9, [])]
theorem ok_X7_isDigit : ∀ x ∈ C_X7_isDigit, am_ok cX7_isDigit 1 x = true := by decide +kernel
noncomputable def P_X7_isDigit : AP := (PF_RX7, PK_RX7, PS_RX7, [], [(42, 3, F_X7_in)], [])
noncomputable def f_X7_isDigit (a1 : Int32) (h : HP) : Option (Int32 × HP) := (f_X7_in a1 48 57 h).bind (fun q_1 => some (q_1.1 &&& 1, q_1.2))
noncomputable def fl_X7_isDigit : List AV → HP → Option (Int32 × HP) := fun as h => match as with
  | [.inl a1] => f_X7_isDigit a1 h
  | _ => none
noncomputable def F_X7_isDigit : AF := .inl fl_X7_isDigit
set_option maxRecDepth 20000 in
theorem b_X7_isDigit (l : Launch) (G : AG) : am_B l G 1 cX7_isDigit RX7 am_tb P_X7_isDigit am_rZ fl_X7_isDigit := by
  intro p e R s m args below meth c cells slots Q CX as h r q
  unfold fl_X7_isDigit at q
  split at q
  · exact am_run_ok CX ok_X7_isDigit (K := []) (am_K0 (Wp := am_W p l e R s m args below meth c cells slots G 1 (Q r))) 8 0 _ _ _ q
  · cases q
theorem s_X7_isDigit : ∀ as h x, fl_X7_isDigit as h = some x → (∀ k, (none : Option Nat) = some k → ∃ (j : Nat) (as' : List AV), as = .inr (.inr (.inl (k, j))) :: as') ∧ (am_l0 as).length ≤ 1 := by
  intro as h x q
  unfold fl_X7_isDigit at q
  split at q
  · exact ⟨fun k e => (by cases e), Nat.le_of_ble_eq_true rfl⟩
  · cases q
theorem M_X7_isDigit (l : Launch) (G : AG) : am_M l G yX7_isDigit cX7_isDigit 1 (some .boolean) 1 22 none F_X7_isDigit := am_M_of (f := fl_X7_isDigit) (toR := fun x => (some (.inl x.1), x.2)) (P := P_X7_isDigit) (Rr := am_rZ) (own := RX7) (by decide) rfl (fun _ _ => rfl) s_X7_isDigit am_wrI am_rkZ pf_RX7 pk_RX7 ps_RX7 (fun _ q => by cases q) (List.forall_mem_cons.mpr ⟨cs_RX7_42 l G (by decide) (by decide), (fun _ q => by cases q)⟩) (fun _ q => by cases q) (b_X7_isDigit l G)
theorem cv_RX7_182 (l : Launch) (G : AG) {fr lo : Nat} (h1 : 0 + 1 ≤ fr) (h2 : 8 + (2 + 11) + 0 ≤ lo) : am_cvOK l G RX7 fr lo (182, 2, F_X7_byteAt) := ⟨yX7_byteAt, cX7_byteAt, 2, (some .int), 0, 0, 7, RX7, M_X7_byteAt l G, ⟨(am_tb_mem (wd_23 _ (List.mem_of_getElem? (i := 13) rfl))), (am_tb_mem (wd_23 _ (List.mem_of_getElem? (i := 14) rfl))), (am_tb_mem (wd_1 _ (List.mem_of_getElem? (i := 6) rfl))), (am_tb_mem (wd_1 _ (List.mem_of_getElem? (i := 26) rfl))), (am_tb_mem (wd_23 _ (List.mem_of_getElem? (i := 15) rfl)))⟩, ⟨rfl, by decide, by decide, by decide +kernel⟩, Or.inl ⟨by decide, rfl⟩, h1, h2⟩
theorem cs_RX7_185 (l : Launch) (G : AG) {fr lo : Nat} (h1 : 1 + 1 ≤ fr) (h2 : 8 + (1 + 11) + 22 ≤ lo) : am_csOK l G RX7 fr lo (185, 1, F_X7_isLetter) := Or.inl ⟨yX7_isLetter, cX7_isLetter, 1, (some .boolean), 1, 22, M_X7_isLetter l G, ⟨(am_tb_mem (wd_23 _ (List.mem_of_getElem? (i := 16) rfl))), (am_tb_mem (wd_23 _ (List.mem_of_getElem? (i := 17) rfl))), (am_tb_mem (wd_1 _ (List.mem_of_getElem? (i := 26) rfl))), (am_tb_mem (wd_23 _ (List.mem_of_getElem? (i := 18) rfl)))⟩, ⟨by decide, by decide, by decide +kernel⟩, h1, h2⟩
theorem cs_RX7_188 (l : Launch) (G : AG) {fr lo : Nat} (h1 : 1 + 1 ≤ fr) (h2 : 8 + (1 + 11) + 22 ≤ lo) : am_csOK l G RX7 fr lo (188, 1, F_X7_isDigit) := Or.inl ⟨yX7_isDigit, cX7_isDigit, 1, (some .boolean), 1, 22, M_X7_isDigit l G, ⟨(am_tb_mem (wd_23 _ (List.mem_of_getElem? (i := 19) rfl))), (am_tb_mem (wd_23 _ (List.mem_of_getElem? (i := 20) rfl))), (am_tb_mem (wd_1 _ (List.mem_of_getElem? (i := 26) rfl))), (am_tb_mem (wd_23 _ (List.mem_of_getElem? (i := 21) rfl)))⟩, ⟨by decide, by decide, by decide +kernel⟩, h1, h2⟩
def C_X7_advance : List AC := [(0, .aload_n 0, 1, []), (1, .aload_n 0, 2, []), (2, .getfield 176, 5, []), (5, .putfield 179, 8, []), (8, .aload_n 0, 9, []), (9, .aload_n 0, 10, []), (10, .getfield 179, 13, []), (13, .invokevirtual 182, 16, []), (16, .bipush 32, 18, []), (18, .if_icmp .ne 16, 21, [34]), (21, .aload_n 0, 22, []), (22, .dup, 23, []), (23, .getfield 179, 26, []), (26, .iconst 1, 27, []), (27, .iadd, 28, []), (28, .putfield 179, 31, []), (31, .goto (-23), 34, [8]), (34, .aload_n 0, 35, []), (35, .aload_n 0, 36, []), (36, .getfield 179, 39, []), (39, .putfield 176, 42, []), (42, .aload_n 0, 43, []), (43, .aload_n 0, 44, []), (44, .getfield 179, 47, []), (47, .invokevirtual 182, 50, []), (50, .istore_n 1, 51, []), (51, .aload_n 0, 52, []), (52, .iload_n 1, 53, []), (53, .ifCond .ge 7, 56, [60]), (56, .iconst 0, 57, []), (57, .goto 26, 60, [83]), (60, .iload_n 1, 61, []), (61, .invokestatic 185, 64, []), (64, .ifCond .eq 7, 67, [71]), (67, .iconst 1, 68, []), (68, .goto 15, 71, [83]), (71, .iload_n 1, 72, []), (72, .invokestatic 188, 75, []), (75, .ifCond .eq 7, 78, [82]), (78, .iconst 2, 79, []), (79, .goto 4, 82, [83]), (82, .iconst 3, 83, []), (83, .putfield 191, 86, []), (86, .aload_n 0, 87, []), (87, .lconst 0, 88, []), (88, .putfield 194, 91, []), (91, .aload_n 0, 92, []), (92, .aload_n 0, 93, []), (93, .getfield 191, 96, []), (96, .iconst 2, 97, []), (97, .if_icmp .ne 7, 100, [104]), (100, .iconst 0, 101, []), (101, .goto 4, 104, [105]), (104, .iload_n 1, 105, []), (105, .putfield 198, 108, []), (108, .aload_n 0, 109, []), (109, .getfield 191, 112, []), (112, .iconst 3, 113, []), (113, .if_icmp .ne 13, 116, [126]), (116, .aload_n 0, 117, []), (117, .dup, 118, []), (118, .getfield 176, 121, []), (121, .iconst 1, 122, []), (122, .iadd, 123, []), (123, .putfield 176, 126, []), (126, .aload_n 0, 127, []), (127, .getfield 191, 130, []), (130, .iconst 1, 131, []), (131, .if_icmp .ne 76, 134, [207]), (134, .aload_n 0, 135, []), (135, .aload_n 0, 136, []), (136, .getfield 176, 139, []), (139, .invokevirtual 182, 142, []), (142, .invokestatic 185, 145, []), (145, .ifCond .eq 62, 148, [207]), (148, .aload_n 0, 149, []), (149, .aload_n 0, 150, []), (150, .getfield 176, 153, []), (153, .aload_n 0, 154, []), (154, .getfield 179, 157, []), (157, .isub, 158, []), (158, .bipush 12, 160, []), (160, .if_icmp .ge 28, 163, [188]), (163, .ldc2_w 201, 166, []), (166, .aload_n 0, 167, []), (167, .getfield 194, 170, []), (170, .lmul, 171, []), (171, .aload_n 0, 172, []), (172, .aload_n 0, 173, []), (173, .getfield 176, 176, []), (176, .invokevirtual 182, 179, []), (179, .i2l, 180, []), (180, .ladd, 181, []), (181, .ldc2_w 203, 184, []), (184, .lsub, 185, []), (185, .goto 6, 188, [191]), (188, .ldc2_w 205, 191, []), (191, .putfield 194, 194, []), (194, .aload_n 0, 195, []), (195, .dup, 196, []), (196, .getfield 176, 199, []), (199, .iconst 1, 200, []), (200, .iadd, 201, []), (201, .putfield 176, 204, []), (204, .goto (-78), 207, [126]), (207, .aload_n 0, 208, []), (208, .getfield 191, 211, []), (211, .iconst 2, 212, []), (212, .if_icmp .ne 69, 215, [281]), (215, .aload_n 0, 216, []), (216, .aload_n 0, 217, []), (217, .getfield 176, 220, []), (220, .invokevirtual 182, 223, []), (223, .invokestatic 188, 226, []), (226, .ifCond .eq 55, 229, [281]), (229, .aload_n 0, 230, []), (230, .aload_n 0, 231, []), (231, .getfield 198, 234, []), (234, .sipush 999, 237, []), (237, .if_icmp .le 9, 240, [246]), (240, .sipush 10000, 243, []), (243, .goto 22, 246, [265]), (246, .bipush 10, 248, []), (248, .aload_n 0, 249, []), (249, .getfield 198, 252, []), (252, .imul, 253, []), (253, .aload_n 0, 254, []), (254, .aload_n 0, 255, []), (255, .getfield 176, 258, []), (258, .invokevirtual 182, 261, []), (261, .iadd, 262, []), (262, .bipush 48, 264, []), (264, .isub, 265, []), (265, .putfield 198, 268, []), (268, .aload_n 0, 269, []), (269, .dup, 270, []), (270, .getfield 176, 273, []), (273, .iconst 1, 274, []), (274, .iadd, 275, []), (275, .putfield 176, 278, []), (278, .goto (-71), 281, [207]), (281, .return_, 282, [])]
theorem ok_X7_advance : ∀ x ∈ C_X7_advance, am_ok cX7_advance 2 x = true := by decide +kernel
noncomputable def P_X7_advance : AP := (PF_RX7, PK_RX7, PS_RX7, [(182, 2, F_X7_byteAt)], [(185, 1, F_X7_isLetter), (188, 1, F_X7_isDigit)], [])
noncomputable def g_X7_advance_265 (k207 : HP → Option HP) (a1 : Int32) (h : HP) : Option HP := k207 (h_wI (h_wI h 7 0 9 a1) 7 0 7 ((h_rI (h_wI h 7 0 9 a1) 7 0 7) + 1))
def pk_X7_advance_265 (k : Int32 → HP → Option HP) : List AV → List AV → HP → Option HP := fun L st h => match L, st with
  | [.inr (.inr (.inl (7, 0))), .inl _], [.inl a1, .inr (.inr (.inl (7, 0)))] => k a1 h
  | _, _ => none
theorem pk_X7_advance_265_ok {Wp : List AV → List AV → HP → Prop} {r : HP} {k : Int32 → HP → Option HP} (hk : ∀ (a1 : Int32) (w1 : Int32) (h : HP), k a1 h = some r → Wp [.inr (.inr (.inl (7, 0))), .inl w1] [.inl a1, .inr (.inr (.inl (7, 0)))] h) : ∀ L st h, pk_X7_advance_265 k L st h = some r → Wp L st h := by
  intro L st h q
  unfold pk_X7_advance_265 at q
  split at q
  · exact hk _ _ _ q
  · cases q
noncomputable def g_X7_advance_207  : Nat → HP → Option HP
  | 0, _ => none
  | n + 1, h => if h_rI h 7 0 5 = (2 : Int32) then ((f_X7_byteAt (h_rI h 7 0 7) h).bind (fun q_1 => (f_X7_isDigit q_1.1 q_1.2).bind (fun q_2 => if q_2.1 = (0 : Int32) then (some q_2.2) else (if h_rI q_2.2 7 0 9 ≤ (999 : Int32) then ((f_X7_byteAt (h_rI q_2.2 7 0 7) q_2.2).bind (fun q_3 => g_X7_advance_265 (g_X7_advance_207 n) (((10 * (h_rI q_2.2 7 0 9)) + q_3.1) - 48) q_3.2)) else (g_X7_advance_265 (g_X7_advance_207 n) 10000 q_2.2))))) else (some h)
def pk_X7_advance_207 (k : HP → Option HP) : List AV → List AV → HP → Option HP := fun L st h => match L, st with
  | [.inr (.inr (.inl (7, 0))), .inl _], [] => k h
  | _, _ => none
theorem pk_X7_advance_207_ok {Wp : List AV → List AV → HP → Prop} {r : HP} {k : HP → Option HP} (hk : ∀ (w1 : Int32) (h : HP), k h = some r → Wp [.inr (.inr (.inl (7, 0))), .inl w1] [] h) : ∀ L st h, pk_X7_advance_207 k L st h = some r → Wp L st h := by
  intro L st h q
  unfold pk_X7_advance_207 at q
  split at q
  · exact hk _ _ q
  · cases q
noncomputable def g_X7_advance_191 (k126 : HP → Option HP) (a1 : Int64) (h : HP) : Option HP := k126 (h_wI (h_wJ h 7 0 8 a1) 7 0 7 ((h_rI (h_wJ h 7 0 8 a1) 7 0 7) + 1))
def pk_X7_advance_191 (k : Int64 → HP → Option HP) : List AV → List AV → HP → Option HP := fun L st h => match L, st with
  | [.inr (.inr (.inl (7, 0))), .inl _], [.inr (.inl a1), .inr (.inr (.inl (7, 0)))] => k a1 h
  | _, _ => none
theorem pk_X7_advance_191_ok {Wp : List AV → List AV → HP → Prop} {r : HP} {k : Int64 → HP → Option HP} (hk : ∀ (a1 : Int64) (w1 : Int32) (h : HP), k a1 h = some r → Wp [.inr (.inr (.inl (7, 0))), .inl w1] [.inr (.inl a1), .inr (.inr (.inl (7, 0)))] h) : ∀ L st h, pk_X7_advance_191 k L st h = some r → Wp L st h := by
  intro L st h q
  unfold pk_X7_advance_191 at q
  split at q
  · exact hk _ _ _ q
  · cases q
noncomputable def g_X7_advance_126  : Nat → HP → Option HP
  | 0, _ => none
  | n + 1, h => if h_rI h 7 0 5 = (1 : Int32) then ((f_X7_byteAt (h_rI h 7 0 7) h).bind (fun q_1 => (f_X7_isLetter q_1.1 q_1.2).bind (fun q_2 => if q_2.1 = (0 : Int32) then (g_X7_advance_207 am_fu q_2.2) else (if (12 : Int32) ≤ (h_rI q_2.2 7 0 7) - (h_rI q_2.2 7 0 6) then (g_X7_advance_191 (g_X7_advance_126 n) ((-1)) q_2.2) else ((f_X7_byteAt (h_rI q_2.2 7 0 7) q_2.2).bind (fun q_3 => g_X7_advance_191 (g_X7_advance_126 n) (((27 * (h_rJ q_2.2 7 0 8)) + (Int32.toInt64 q_3.1)) - 96) q_3.2)))))) else (g_X7_advance_207 am_fu h)
def pk_X7_advance_126 (k : HP → Option HP) : List AV → List AV → HP → Option HP := fun L st h => match L, st with
  | [.inr (.inr (.inl (7, 0))), .inl _], [] => k h
  | _, _ => none
theorem pk_X7_advance_126_ok {Wp : List AV → List AV → HP → Prop} {r : HP} {k : HP → Option HP} (hk : ∀ (w1 : Int32) (h : HP), k h = some r → Wp [.inr (.inr (.inl (7, 0))), .inl w1] [] h) : ∀ L st h, pk_X7_advance_126 k L st h = some r → Wp L st h := by
  intro L st h q
  unfold pk_X7_advance_126 at q
  split at q
  · exact hk _ _ q
  · cases q
noncomputable def g_X7_advance_105 (a1 : Int32) (h : HP) : Option HP := if h_rI (h_wI h 7 0 9 a1) 7 0 5 = (3 : Int32) then (g_X7_advance_126 am_fu (h_wI (h_wI h 7 0 9 a1) 7 0 7 ((h_rI (h_wI h 7 0 9 a1) 7 0 7) + 1))) else (g_X7_advance_126 am_fu (h_wI h 7 0 9 a1))
def pk_X7_advance_105 (k : Int32 → HP → Option HP) : List AV → List AV → HP → Option HP := fun L st h => match L, st with
  | [.inr (.inr (.inl (7, 0))), .inl _], [.inl a1, .inr (.inr (.inl (7, 0)))] => k a1 h
  | _, _ => none
theorem pk_X7_advance_105_ok {Wp : List AV → List AV → HP → Prop} {r : HP} {k : Int32 → HP → Option HP} (hk : ∀ (a1 : Int32) (w1 : Int32) (h : HP), k a1 h = some r → Wp [.inr (.inr (.inl (7, 0))), .inl w1] [.inl a1, .inr (.inr (.inl (7, 0)))] h) : ∀ L st h, pk_X7_advance_105 k L st h = some r → Wp L st h := by
  intro L st h q
  unfold pk_X7_advance_105 at q
  split at q
  · exact hk _ _ _ q
  · cases q
noncomputable def g_X7_advance_83 (a1 : Int32) (a2 : Int32) (h : HP) : Option HP := if h_rI (h_wJ (h_wI h 7 0 5 a2) 7 0 8 0) 7 0 5 = (2 : Int32) then (g_X7_advance_105 0 (h_wJ (h_wI h 7 0 5 a2) 7 0 8 0)) else (g_X7_advance_105 a1 (h_wJ (h_wI h 7 0 5 a2) 7 0 8 0))
def pk_X7_advance_83 (k : Int32 → Int32 → HP → Option HP) : List AV → List AV → HP → Option HP := fun L st h => match L, st with
  | [.inr (.inr (.inl (7, 0))), .inl a1], [.inl a2, .inr (.inr (.inl (7, 0)))] => k a1 a2 h
  | _, _ => none
theorem pk_X7_advance_83_ok {Wp : List AV → List AV → HP → Prop} {r : HP} {k : Int32 → Int32 → HP → Option HP} (hk : ∀ (a1 : Int32) (a2 : Int32) (h : HP), k a1 a2 h = some r → Wp [.inr (.inr (.inl (7, 0))), .inl a1] [.inl a2, .inr (.inr (.inl (7, 0)))] h) : ∀ L st h, pk_X7_advance_83 k L st h = some r → Wp L st h := by
  intro L st h q
  unfold pk_X7_advance_83 at q
  split at q
  · exact hk _ _ _ q
  · cases q
noncomputable def g_X7_advance_8  : Nat → HP → Option HP
  | 0, _ => none
  | n + 1, h => (f_X7_byteAt (h_rI h 7 0 6) h).bind (fun q_1 => if q_1.1 = (32 : Int32) then (g_X7_advance_8 n (h_wI q_1.2 7 0 6 ((h_rI q_1.2 7 0 6) + 1))) else ((f_X7_byteAt (h_rI (h_wI q_1.2 7 0 7 (h_rI q_1.2 7 0 6)) 7 0 6) (h_wI q_1.2 7 0 7 (h_rI q_1.2 7 0 6))).bind (fun q_2 => if (0 : Int32) ≤ q_2.1 then ((f_X7_isLetter q_2.1 q_2.2).bind (fun q_3 => if q_3.1 = (0 : Int32) then ((f_X7_isDigit q_2.1 q_3.2).bind (fun q_4 => if q_4.1 = (0 : Int32) then (g_X7_advance_83 q_2.1 3 q_4.2) else (g_X7_advance_83 q_2.1 2 q_4.2))) else (g_X7_advance_83 q_2.1 1 q_3.2))) else (g_X7_advance_83 q_2.1 0 q_2.2))))
def pk_X7_advance_8 (k : HP → Option HP) : List AV → List AV → HP → Option HP := fun L st h => match L, st with
  | [.inr (.inr (.inl (7, 0))), .inr (.inr (.inr ()))], [] => k h
  | _, _ => none
theorem pk_X7_advance_8_ok {Wp : List AV → List AV → HP → Prop} {r : HP} {k : HP → Option HP} (hk : ∀ (h : HP), k h = some r → Wp [.inr (.inr (.inl (7, 0))), .inr (.inr (.inr ()))] [] h) : ∀ L st h, pk_X7_advance_8 k L st h = some r → Wp L st h := by
  intro L st h q
  unfold pk_X7_advance_8 at q
  split at q
  · exact hk _ q
  · cases q
noncomputable def f_X7_advance  (h : HP) : Option HP := g_X7_advance_8 am_fu (h_wI h 7 0 6 (h_rI h 7 0 7))
noncomputable def fl_X7_advance : List AV → HP → Option HP := fun as h => match as with
  | [.inr (.inr (.inl (7, 0)))] => f_X7_advance h
  | _ => none
noncomputable def F_X7_advance : AF := .inr (.inl fl_X7_advance)
set_option maxRecDepth 20000 in
theorem w_X7_advance_265 {p : Program} {l : Launch} {e : Env} {R : Room} {s : State} {m : MethodId} {args : Array Value} {below : List Frame} {meth : Method} {c : Code} {cells slots : Nat} {G : AG} {Q : HP → State → Prop} (CX : am_X p l e R s m args below meth c cells slots G 2 cX7_advance RX7 am_tb P_X7_advance am_rV Q) {r : HP} {k207 : HP → Option HP} (hk207 : ∀ (w1 : Int32) (h : HP), k207 h = some r → am_W p l e R s m args below meth c cells slots G 2 (Q r) 207 [.inr (.inr (.inl (7, 0))), .inl w1] [] h) : ∀ (a1 : Int32) (w1 : Int32) (h : HP), g_X7_advance_265 k207 a1 h = some r → am_W p l e R s m args below meth c cells slots G 2 (Q r) 265 [.inr (.inr (.inl (7, 0))), .inl w1] [.inl a1, .inr (.inr (.inl (7, 0)))] h := by
  intro a1 w1 h q
  exact am_run_ok CX ok_X7_advance (K := [(207, pk_X7_advance_207 (k207))]) (am_K1 (Wp := am_W p l e R s m args below meth c cells slots G 2 (Q r)) (pk_X7_advance_207_ok (Wp := am_W p l e R s m args below meth c cells slots G 2 (Q r) 207) hk207) am_K0) 11 265 _ _ _ q
set_option maxRecDepth 20000 in
theorem w_X7_advance_207 {p : Program} {l : Launch} {e : Env} {R : Room} {s : State} {m : MethodId} {args : Array Value} {below : List Frame} {meth : Method} {c : Code} {cells slots : Nat} {G : AG} {Q : HP → State → Prop} (CX : am_X p l e R s m args below meth c cells slots G 2 cX7_advance RX7 am_tb P_X7_advance am_rV Q) {r : HP} : ∀ (n : Nat) (w1 : Int32) (h : HP), g_X7_advance_207 n h = some r → am_W p l e R s m args below meth c cells slots G 2 (Q r) 207 [.inr (.inr (.inl (7, 0))), .inl w1] [] h := by
  intro n
  induction n with
  | zero =>
    intro w1 h q
    have q9 : (none : Option HP) = some r := q
    cases q9
  | succ n ih =>
    intro w1 h q
    exact am_run_ok CX ok_X7_advance (K := [(265, pk_X7_advance_265 (g_X7_advance_265 (g_X7_advance_207 n)))]) (am_K1 (Wp := am_W p l e R s m args below meth c cells slots G 2 (Q r)) (pk_X7_advance_265_ok (Wp := am_W p l e R s m args below meth c cells slots G 2 (Q r) 265) (w_X7_advance_265 CX ih)) am_K0) 29 207 _ _ _ q
set_option maxRecDepth 20000 in
theorem w_X7_advance_191 {p : Program} {l : Launch} {e : Env} {R : Room} {s : State} {m : MethodId} {args : Array Value} {below : List Frame} {meth : Method} {c : Code} {cells slots : Nat} {G : AG} {Q : HP → State → Prop} (CX : am_X p l e R s m args below meth c cells slots G 2 cX7_advance RX7 am_tb P_X7_advance am_rV Q) {r : HP} {k126 : HP → Option HP} (hk126 : ∀ (w1 : Int32) (h : HP), k126 h = some r → am_W p l e R s m args below meth c cells slots G 2 (Q r) 126 [.inr (.inr (.inl (7, 0))), .inl w1] [] h) : ∀ (a1 : Int64) (w1 : Int32) (h : HP), g_X7_advance_191 k126 a1 h = some r → am_W p l e R s m args below meth c cells slots G 2 (Q r) 191 [.inr (.inr (.inl (7, 0))), .inl w1] [.inr (.inl a1), .inr (.inr (.inl (7, 0)))] h := by
  intro a1 w1 h q
  exact am_run_ok CX ok_X7_advance (K := [(126, pk_X7_advance_126 (k126))]) (am_K1 (Wp := am_W p l e R s m args below meth c cells slots G 2 (Q r)) (pk_X7_advance_126_ok (Wp := am_W p l e R s m args below meth c cells slots G 2 (Q r) 126) hk126) am_K0) 11 191 _ _ _ q
set_option maxRecDepth 20000 in
theorem w_X7_advance_126 {p : Program} {l : Launch} {e : Env} {R : Room} {s : State} {m : MethodId} {args : Array Value} {below : List Frame} {meth : Method} {c : Code} {cells slots : Nat} {G : AG} {Q : HP → State → Prop} (CX : am_X p l e R s m args below meth c cells slots G 2 cX7_advance RX7 am_tb P_X7_advance am_rV Q) {r : HP} : ∀ (n : Nat) (w1 : Int32) (h : HP), g_X7_advance_126 n h = some r → am_W p l e R s m args below meth c cells slots G 2 (Q r) 126 [.inr (.inr (.inl (7, 0))), .inl w1] [] h := by
  intro n
  induction n with
  | zero =>
    intro w1 h q
    have q9 : (none : Option HP) = some r := q
    cases q9
  | succ n ih =>
    intro w1 h q
    exact am_run_ok CX ok_X7_advance (K := [(207, pk_X7_advance_207 (g_X7_advance_207 am_fu)), (191, pk_X7_advance_191 (g_X7_advance_191 (g_X7_advance_126 n)))]) (am_K1 (Wp := am_W p l e R s m args below meth c cells slots G 2 (Q r)) (pk_X7_advance_207_ok (Wp := am_W p l e R s m args below meth c cells slots G 2 (Q r) 207) (w_X7_advance_207 CX am_fu)) (am_K1 (Wp := am_W p l e R s m args below meth c cells slots G 2 (Q r)) (pk_X7_advance_191_ok (Wp := am_W p l e R s m args below meth c cells slots G 2 (Q r) 191) (w_X7_advance_191 CX ih)) am_K0)) 34 126 _ _ _ q
set_option maxRecDepth 20000 in
theorem w_X7_advance_105 {p : Program} {l : Launch} {e : Env} {R : Room} {s : State} {m : MethodId} {args : Array Value} {below : List Frame} {meth : Method} {c : Code} {cells slots : Nat} {G : AG} {Q : HP → State → Prop} (CX : am_X p l e R s m args below meth c cells slots G 2 cX7_advance RX7 am_tb P_X7_advance am_rV Q) {r : HP} : ∀ (a1 : Int32) (w1 : Int32) (h : HP), g_X7_advance_105 a1 h = some r → am_W p l e R s m args below meth c cells slots G 2 (Q r) 105 [.inr (.inr (.inl (7, 0))), .inl w1] [.inl a1, .inr (.inr (.inl (7, 0)))] h := by
  intro a1 w1 h q
  exact am_run_ok CX ok_X7_advance (K := [(126, pk_X7_advance_126 (g_X7_advance_126 am_fu))]) (am_K1 (Wp := am_W p l e R s m args below meth c cells slots G 2 (Q r)) (pk_X7_advance_126_ok (Wp := am_W p l e R s m args below meth c cells slots G 2 (Q r) 126) (w_X7_advance_126 CX am_fu)) am_K0) 14 105 _ _ _ q
set_option maxRecDepth 20000 in
theorem w_X7_advance_83 {p : Program} {l : Launch} {e : Env} {R : Room} {s : State} {m : MethodId} {args : Array Value} {below : List Frame} {meth : Method} {c : Code} {cells slots : Nat} {G : AG} {Q : HP → State → Prop} (CX : am_X p l e R s m args below meth c cells slots G 2 cX7_advance RX7 am_tb P_X7_advance am_rV Q) {r : HP} : ∀ (a1 : Int32) (a2 : Int32) (h : HP), g_X7_advance_83 a1 a2 h = some r → am_W p l e R s m args below meth c cells slots G 2 (Q r) 83 [.inr (.inr (.inl (7, 0))), .inl a1] [.inl a2, .inr (.inr (.inl (7, 0)))] h := by
  intro a1 a2 h q
  exact am_run_ok CX ok_X7_advance (K := [(105, pk_X7_advance_105 (g_X7_advance_105))]) (am_K1 (Wp := am_W p l e R s m args below meth c cells slots G 2 (Q r)) (pk_X7_advance_105_ok (Wp := am_W p l e R s m args below meth c cells slots G 2 (Q r) 105) (w_X7_advance_105 CX)) am_K0) 14 83 _ _ _ q
set_option maxRecDepth 20000 in
theorem w_X7_advance_8 {p : Program} {l : Launch} {e : Env} {R : Room} {s : State} {m : MethodId} {args : Array Value} {below : List Frame} {meth : Method} {c : Code} {cells slots : Nat} {G : AG} {Q : HP → State → Prop} (CX : am_X p l e R s m args below meth c cells slots G 2 cX7_advance RX7 am_tb P_X7_advance am_rV Q) {r : HP} : ∀ (n : Nat) (h : HP), g_X7_advance_8 n h = some r → am_W p l e R s m args below meth c cells slots G 2 (Q r) 8 [.inr (.inr (.inl (7, 0))), .inr (.inr (.inr ()))] [] h := by
  intro n
  induction n with
  | zero =>
    intro h q
    have q9 : (none : Option HP) = some r := q
    cases q9
  | succ n ih =>
    intro h q
    exact am_run_ok CX ok_X7_advance (K := [(83, pk_X7_advance_83 (g_X7_advance_83)), (8, pk_X7_advance_8 (g_X7_advance_8 n))]) (am_K1 (Wp := am_W p l e R s m args below meth c cells slots G 2 (Q r)) (pk_X7_advance_83_ok (Wp := am_W p l e R s m args below meth c cells slots G 2 (Q r) 83) (w_X7_advance_83 CX)) (am_K1 (Wp := am_W p l e R s m args below meth c cells slots G 2 (Q r)) (pk_X7_advance_8_ok (Wp := am_W p l e R s m args below meth c cells slots G 2 (Q r) 8) ih) am_K0)) 29 8 _ _ _ q
set_option maxRecDepth 20000 in
theorem b_X7_advance (l : Launch) (G : AG) : am_B l G 2 cX7_advance RX7 am_tb P_X7_advance am_rV fl_X7_advance := by
  intro p e R s m args below meth c cells slots Q CX as h r q
  unfold fl_X7_advance at q
  split at q
  · exact am_run_ok CX ok_X7_advance (K := [(8, pk_X7_advance_8 (g_X7_advance_8 am_fu))]) (am_K1 (Wp := am_W p l e R s m args below meth c cells slots G 2 (Q r)) (pk_X7_advance_8_ok (Wp := am_W p l e R s m args below meth c cells slots G 2 (Q r) 8) (w_X7_advance_8 CX am_fu)) am_K0) 7 0 _ _ _ q
  · cases q
theorem s_X7_advance : ∀ as h x, fl_X7_advance as h = some x → (∀ k, (some 7 : Option Nat) = some k → ∃ (j : Nat) (as' : List AV), as = .inr (.inr (.inl (k, j))) :: as') ∧ (am_l0 as).length ≤ 2 := by
  intro as h x q
  unfold fl_X7_advance at q
  split at q
  · exact ⟨fun k e => by cases e; exact ⟨_, _, rfl⟩, Nat.le_of_ble_eq_true rfl⟩
  · cases q
theorem M_X7_advance (l : Launch) (G : AG) : am_M l G yX7_advance cX7_advance 2 none 2 42 (some 7) F_X7_advance := am_M_of (f := fl_X7_advance) (toR := fun x => (none, x)) (P := P_X7_advance) (Rr := am_rV) (own := RX7) (by decide) rfl (fun _ _ => rfl) s_X7_advance am_wrV am_rkV pf_RX7 pk_RX7 ps_RX7 (List.forall_mem_cons.mpr ⟨cv_RX7_182 l G (by decide) (by decide), (fun _ q => by cases q)⟩) (List.forall_mem_cons.mpr ⟨cs_RX7_185 l G (by decide) (by decide), (List.forall_mem_cons.mpr ⟨cs_RX7_188 l G (by decide) (by decide), (fun _ q => by cases q)⟩)⟩) (fun _ q => by cases q) (b_X7_advance l G)
def C_X7_isWord : List AC := [(0, .aload_n 0, 1, []), (1, .getfield 191, 4, []), (4, .iconst 1, 5, []), (5, .if_icmp .ne 16, 8, [21]), (8, .aload_n 0, 9, []), (9, .getfield 194, 12, []), (12, .lload_n 1, 13, []), (13, .lcmp, 14, []), (14, .ifCond .ne 7, 17, [21]), (17, .iconst 1, 18, []), (18, .goto 4, 21, [22]), (21, .iconst 0, 22, []), (22, .ireturn, 23, [])]
theorem ok_X7_isWord : ∀ x ∈ C_X7_isWord, am_ok cX7_isWord 3 x = true := by decide +kernel
noncomputable def P_X7_isWord : AP := (PF_RX7, PK_RX7, PS_RX7, [], [], [])
noncomputable def f_X7_isWord (a1 : Int64) (h : HP) : Option (Int32 × HP) := if h_rI h 7 0 5 = (1 : Int32) then (if lg_cmp (h_rJ h 7 0 8) a1 = (0 : Int32) then (some (1, h)) else (some (0, h))) else (some (0, h))
noncomputable def fl_X7_isWord : List AV → HP → Option (Int32 × HP) := fun as h => match as with
  | [.inr (.inr (.inl (7, 0))), .inr (.inl a1)] => f_X7_isWord a1 h
  | _ => none
noncomputable def F_X7_isWord : AF := .inl fl_X7_isWord
set_option maxRecDepth 20000 in
theorem b_X7_isWord (l : Launch) (G : AG) : am_B l G 3 cX7_isWord RX7 am_tb P_X7_isWord am_rZ fl_X7_isWord := by
  intro p e R s m args below meth c cells slots Q CX as h r q
  unfold fl_X7_isWord at q
  split at q
  · exact am_run_ok CX ok_X7_isWord (K := []) (am_K0 (Wp := am_W p l e R s m args below meth c cells slots G 3 (Q r))) 15 0 _ _ _ q
  · cases q
theorem s_X7_isWord : ∀ as h x, fl_X7_isWord as h = some x → (∀ k, (some 7 : Option Nat) = some k → ∃ (j : Nat) (as' : List AV), as = .inr (.inr (.inl (k, j))) :: as') ∧ (am_l0 as).length ≤ 3 := by
  intro as h x q
  unfold fl_X7_isWord at q
  split at q
  · exact ⟨fun k e => by cases e; exact ⟨_, _, rfl⟩, Nat.le_of_ble_eq_true rfl⟩
  · cases q
theorem M_X7_isWord (l : Launch) (G : AG) : am_M l G yX7_isWord cX7_isWord 3 (some .boolean) 0 0 (some 7) F_X7_isWord := am_M_of (f := fl_X7_isWord) (toR := fun x => (some (.inl x.1), x.2)) (P := P_X7_isWord) (Rr := am_rZ) (own := RX7) (by decide) rfl (fun _ _ => rfl) s_X7_isWord am_wrI am_rkZ pf_RX7 pk_RX7 ps_RX7 (fun _ q => by cases q) (fun _ q => by cases q) (fun _ q => by cases q) (b_X7_isWord l G)
theorem cv_RX7_209 (l : Launch) (G : AG) {fr lo : Nat} (h1 : 0 + 1 ≤ fr) (h2 : 8 + (3 + 11) + 0 ≤ lo) : am_cvOK l G RX7 fr lo (209, 2, F_X7_isWord) := ⟨yX7_isWord, cX7_isWord, 3, (some .boolean), 0, 0, 7, RX7, M_X7_isWord l G, ⟨(am_tb_mem (wd_23 _ (List.mem_of_getElem? (i := 32) rfl))), (am_tb_mem (wd_23 _ (List.mem_of_getElem? (i := 33) rfl))), (am_tb_mem (wd_1 _ (List.mem_of_getElem? (i := 9) rfl))), (am_tb_mem (wd_1 _ (List.mem_of_getElem? (i := 26) rfl))), (am_tb_mem (wd_23 _ (List.mem_of_getElem? (i := 34) rfl)))⟩, ⟨rfl, by decide, by decide, by decide +kernel⟩, Or.inl ⟨by decide, rfl⟩, h1, h2⟩
def C_X7_kindHere : List AC := [(0, .aload_n 0, 1, []), (1, .ldc2_w 207, 4, []), (4, .invokevirtual 209, 7, []), (7, .ifCond .eq 7, 10, [14]), (10, .iconst 0, 11, []), (11, .goto 74, 14, [85]), (14, .aload_n 0, 15, []), (15, .ldc2_w 213, 18, []), (18, .invokevirtual 209, 21, []), (21, .ifCond .eq 7, 24, [28]), (24, .iconst 1, 25, []), (25, .goto 60, 28, [85]), (28, .aload_n 0, 29, []), (29, .ldc2_w 215, 32, []), (32, .invokevirtual 209, 35, []), (35, .ifCond .eq 7, 38, [42]), (38, .iconst 2, 39, []), (39, .goto 46, 42, [85]), (42, .aload_n 0, 43, []), (43, .ldc2_w 217, 46, []), (46, .invokevirtual 209, 49, []), (49, .ifCond .eq 7, 52, [56]), (52, .iconst 3, 53, []), (53, .goto 32, 56, [85]), (56, .aload_n 0, 57, []), (57, .ldc2_w 219, 60, []), (60, .invokevirtual 209, 63, []), (63, .ifCond .eq 7, 66, [70]), (66, .iconst 4, 67, []), (67, .goto 18, 70, [85]), (70, .aload_n 0, 71, []), (71, .ldc2_w 221, 74, []), (74, .invokevirtual 209, 77, []), (77, .ifCond .eq 7, 80, [84]), (80, .iconst 5, 81, []), (81, .goto 4, 84, [85]), (84, .iconst (-1), 85, []), (85, .ireturn, 86, [])]
theorem ok_X7_kindHere : ∀ x ∈ C_X7_kindHere, am_ok cX7_kindHere 1 x = true := by decide +kernel
noncomputable def P_X7_kindHere : AP := (PF_RX7, PK_RX7, PS_RX7, [(209, 2, F_X7_isWord)], [], [])
noncomputable def f_X7_kindHere  (h : HP) : Option (Int32 × HP) := (f_X7_isWord 115601504 h).bind (fun q_1 => if q_1.1 = (0 : Int32) then ((f_X7_isWord 1418437 q_1.2).bind (fun q_2 => if q_2.1 = (0 : Int32) then ((f_X7_isWord 50684 q_2.2).bind (fun q_3 => if q_3.1 = (0 : Int32) then ((f_X7_isWord 365666 q_3.2).bind (fun q_4 => if q_4.1 = (0 : Int32) then ((f_X7_isWord 227126 q_4.2).bind (fun q_5 => if q_5.1 = (0 : Int32) then ((f_X7_isWord 6411644 q_5.2).bind (fun q_6 => if q_6.1 = (0 : Int32) then (some ((-1), q_6.2)) else (some (5, q_6.2)))) else (some (4, q_5.2)))) else (some (3, q_4.2)))) else (some (2, q_3.2)))) else (some (1, q_2.2)))) else (some (0, q_1.2)))
noncomputable def fl_X7_kindHere : List AV → HP → Option (Int32 × HP) := fun as h => match as with
  | [.inr (.inr (.inl (7, 0)))] => f_X7_kindHere h
  | _ => none
noncomputable def F_X7_kindHere : AF := .inl fl_X7_kindHere
set_option maxRecDepth 20000 in
theorem b_X7_kindHere (l : Launch) (G : AG) : am_B l G 1 cX7_kindHere RX7 am_tb P_X7_kindHere am_rI fl_X7_kindHere := by
  intro p e R s m args below meth c cells slots Q CX as h r q
  unfold fl_X7_kindHere at q
  split at q
  · exact am_run_ok CX ok_X7_kindHere (K := []) (am_K0 (Wp := am_W p l e R s m args below meth c cells slots G 1 (Q r))) 30 0 _ _ _ q
  · cases q
theorem s_X7_kindHere : ∀ as h x, fl_X7_kindHere as h = some x → (∀ k, (some 7 : Option Nat) = some k → ∃ (j : Nat) (as' : List AV), as = .inr (.inr (.inl (k, j))) :: as') ∧ (am_l0 as).length ≤ 1 := by
  intro as h x q
  unfold fl_X7_kindHere at q
  split at q
  · exact ⟨fun k e => by cases e; exact ⟨_, _, rfl⟩, Nat.le_of_ble_eq_true rfl⟩
  · cases q
theorem M_X7_kindHere (l : Launch) (G : AG) : am_M l G yX7_kindHere cX7_kindHere 1 (some .int) 1 22 (some 7) F_X7_kindHere := am_M_of (f := fl_X7_kindHere) (toR := fun x => (some (.inl x.1), x.2)) (P := P_X7_kindHere) (Rr := am_rI) (own := RX7) (by decide) rfl (fun _ _ => rfl) s_X7_kindHere am_wrI am_rkI pf_RX7 pk_RX7 ps_RX7 (List.forall_mem_cons.mpr ⟨cv_RX7_209 l G (by decide) (by decide), (fun _ q => by cases q)⟩) (fun _ q => by cases q) (fun _ q => by cases q) (b_X7_kindHere l G)
theorem cv_RX7_227 (l : Launch) (G : AG) {fr lo : Nat} (h1 : 2 + 1 ≤ fr) (h2 : 8 + (2 + 11) + 42 ≤ lo) : am_cvOK l G RX7 fr lo (227, 1, F_X7_advance) := ⟨yX7_advance, cX7_advance, 2, none, 2, 42, 7, RX7, M_X7_advance l G, ⟨(am_tb_mem (wd_23 _ (List.mem_of_getElem? (i := 10) rfl))), (am_tb_mem (wd_23 _ (List.mem_of_getElem? (i := 11) rfl))), (am_tb_mem (wd_1 _ (List.mem_of_getElem? (i := 5) rfl))), (am_tb_mem (wd_1 _ (List.mem_of_getElem? (i := 26) rfl))), (am_tb_mem (wd_23 _ (List.mem_of_getElem? (i := 12) rfl)))⟩, ⟨rfl, by decide, by decide, by decide +kernel⟩, Or.inl ⟨by decide, rfl⟩, h1, h2⟩
def C_X7_wantNumber : List AC := [(0, .aload_n 0, 1, []), (1, .getfield 198, 4, []), (4, .istore_n 3, 5, []), (5, .aload_n 0, 6, []), (6, .aload_n 0, 7, []), (7, .getfield 223, 10, []), (10, .ifCond .eq 24, 13, [34]), (13, .aload_n 0, 14, []), (14, .getfield 191, 17, []), (17, .iconst 2, 18, []), (18, .if_icmp .ne 16, 21, [34]), (21, .iload_n 3, 22, []), (22, .iload_n 1, 23, []), (23, .iload_n 2, 24, []), (24, .invokestatic 42, 27, []), (27, .ifCond .eq 7, 30, [34]), (30, .iconst 1, 31, []), (31, .goto 4, 34, [35]), (34, .iconst 0, 35, []), (35, .putfield 223, 38, []), (38, .aload_n 0, 39, []), (39, .getfield 223, 42, []), (42, .ifCond .eq 7, 45, [49]), (45, .aload_n 0, 46, []), (46, .invokevirtual 227, 49, []), (49, .iload_n 3, 50, []), (50, .ireturn, 51, [])]
theorem ok_X7_wantNumber : ∀ x ∈ C_X7_wantNumber, am_ok cX7_wantNumber 4 x = true := by decide +kernel
noncomputable def P_X7_wantNumber : AP := (PF_RX7, PK_RX7, PS_RX7, [(227, 1, F_X7_advance)], [(42, 3, F_X7_in)], [])
noncomputable def g_X7_wantNumber_35 (a1 : Int32) (a2 : Int32) (h : HP) : Option (Int32 × HP) := if a2 &&& 1 = a2 then (if h_rI (h_wI h 7 0 10 a2) 7 0 10 = (0 : Int32) then (some (a1, h_wI h 7 0 10 a2)) else ((f_X7_advance (h_wI h 7 0 10 a2)).bind (fun q_1 => some (a1, q_1)))) else none
def pk_X7_wantNumber_35 (k : Int32 → Int32 → HP → Option (Int32 × HP)) : List AV → List AV → HP → Option (Int32 × HP) := fun L st h => match L, st with
  | [.inr (.inr (.inl (7, 0))), .inl _, .inl _, .inl a1], [.inl a2, .inr (.inr (.inl (7, 0)))] => k a1 a2 h
  | _, _ => none
theorem pk_X7_wantNumber_35_ok {Wp : List AV → List AV → HP → Prop} {r : (Int32 × HP)} {k : Int32 → Int32 → HP → Option (Int32 × HP)} (hk : ∀ (a1 : Int32) (a2 : Int32) (w1 : Int32) (w2 : Int32) (h : HP), k a1 a2 h = some r → Wp [.inr (.inr (.inl (7, 0))), .inl w1, .inl w2, .inl a1] [.inl a2, .inr (.inr (.inl (7, 0)))] h) : ∀ L st h, pk_X7_wantNumber_35 k L st h = some r → Wp L st h := by
  intro L st h q
  unfold pk_X7_wantNumber_35 at q
  split at q
  · exact hk _ _ _ _ _ q
  · cases q
noncomputable def f_X7_wantNumber (a1 : Int32) (a2 : Int32) (h : HP) : Option (Int32 × HP) := if h_rI h 7 0 10 = (0 : Int32) then (g_X7_wantNumber_35 (h_rI h 7 0 9) 0 h) else (if h_rI h 7 0 5 = (2 : Int32) then ((f_X7_in (h_rI h 7 0 9) a1 a2 h).bind (fun q_1 => if q_1.1 = (0 : Int32) then (g_X7_wantNumber_35 (h_rI h 7 0 9) 0 q_1.2) else (g_X7_wantNumber_35 (h_rI h 7 0 9) 1 q_1.2))) else (g_X7_wantNumber_35 (h_rI h 7 0 9) 0 h))
noncomputable def fl_X7_wantNumber : List AV → HP → Option (Int32 × HP) := fun as h => match as with
  | [.inr (.inr (.inl (7, 0))), .inl a1, .inl a2] => f_X7_wantNumber a1 a2 h
  | _ => none
noncomputable def F_X7_wantNumber : AF := .inl fl_X7_wantNumber
set_option maxRecDepth 20000 in
theorem w_X7_wantNumber_35 {p : Program} {l : Launch} {e : Env} {R : Room} {s : State} {m : MethodId} {args : Array Value} {below : List Frame} {meth : Method} {c : Code} {cells slots : Nat} {G : AG} {Q : (Int32 × HP) → State → Prop} (CX : am_X p l e R s m args below meth c cells slots G 4 cX7_wantNumber RX7 am_tb P_X7_wantNumber am_rI Q) {r : (Int32 × HP)} : ∀ (a1 : Int32) (a2 : Int32) (w1 : Int32) (w2 : Int32) (h : HP), g_X7_wantNumber_35 a1 a2 h = some r → am_W p l e R s m args below meth c cells slots G 4 (Q r) 35 [.inr (.inr (.inl (7, 0))), .inl w1, .inl w2, .inl a1] [.inl a2, .inr (.inr (.inl (7, 0)))] h := by
  intro a1 a2 w1 w2 h q
  exact am_run_ok CX ok_X7_wantNumber (K := []) (am_K0 (Wp := am_W p l e R s m args below meth c cells slots G 4 (Q r))) 11 35 _ _ _ q
set_option maxRecDepth 20000 in
theorem b_X7_wantNumber (l : Launch) (G : AG) : am_B l G 4 cX7_wantNumber RX7 am_tb P_X7_wantNumber am_rI fl_X7_wantNumber := by
  intro p e R s m args below meth c cells slots Q CX as h r q
  unfold fl_X7_wantNumber at q
  split at q
  · exact am_run_ok CX ok_X7_wantNumber (K := [(35, pk_X7_wantNumber_35 (g_X7_wantNumber_35))]) (am_K1 (Wp := am_W p l e R s m args below meth c cells slots G 4 (Q r)) (pk_X7_wantNumber_35_ok (Wp := am_W p l e R s m args below meth c cells slots G 4 (Q r) 35) (w_X7_wantNumber_35 CX)) am_K0) 21 0 _ _ _ q
  · cases q
theorem s_X7_wantNumber : ∀ as h x, fl_X7_wantNumber as h = some x → (∀ k, (some 7 : Option Nat) = some k → ∃ (j : Nat) (as' : List AV), as = .inr (.inr (.inl (k, j))) :: as') ∧ (am_l0 as).length ≤ 4 := by
  intro as h x q
  unfold fl_X7_wantNumber at q
  split at q
  · exact ⟨fun k e => by cases e; exact ⟨_, _, rfl⟩, Nat.le_of_ble_eq_true rfl⟩
  · cases q
theorem M_X7_wantNumber (l : Launch) (G : AG) : am_M l G yX7_wantNumber cX7_wantNumber 4 (some .int) 3 63 (some 7) F_X7_wantNumber := am_M_of (f := fl_X7_wantNumber) (toR := fun x => (some (.inl x.1), x.2)) (P := P_X7_wantNumber) (Rr := am_rI) (own := RX7) (by decide) rfl (fun _ _ => rfl) s_X7_wantNumber am_wrI am_rkI pf_RX7 pk_RX7 ps_RX7 (List.forall_mem_cons.mpr ⟨cv_RX7_227 l G (by decide) (by decide), (fun _ q => by cases q)⟩) (List.forall_mem_cons.mpr ⟨cs_RX7_42 l G (by decide) (by decide), (fun _ q => by cases q)⟩) (fun _ q => by cases q) (b_X7_wantNumber l G)
theorem cv_RX7_230 (l : Launch) (G : AG) {fr lo : Nat} (h1 : 3 + 1 ≤ fr) (h2 : 8 + (4 + 11) + 63 ≤ lo) : am_cvOK l G RX7 fr lo (230, 3, F_X7_wantNumber) := ⟨yX7_wantNumber, cX7_wantNumber, 4, (some .int), 3, 63, 7, RX7, M_X7_wantNumber l G, ⟨(am_tb_mem (wd_24 _ (List.mem_of_getElem? (i := 7) rfl))), (am_tb_mem (wd_24 _ (List.mem_of_getElem? (i := 8) rfl))), (am_tb_mem (wd_1 _ (List.mem_of_getElem? (i := 12) rfl))), (am_tb_mem (wd_1 _ (List.mem_of_getElem? (i := 26) rfl))), (am_tb_mem (wd_24 _ (List.mem_of_getElem? (i := 9) rfl)))⟩, ⟨rfl, by decide, by decide, by decide +kernel⟩, Or.inl ⟨by decide, rfl⟩, h1, h2⟩
def C_X7_mayWant : List AC := [(0, .aload_n 0, 1, []), (1, .getfield 223, 4, []), (4, .ifCond .eq 11, 7, [15]), (7, .aload_n 0, 8, []), (8, .lload_n 1, 9, []), (9, .invokevirtual 209, 12, []), (12, .ifCond .ne 6, 15, [18]), (15, .iload 5, 17, []), (17, .ireturn, 18, []), (18, .aload_n 0, 19, []), (19, .invokevirtual 227, 22, []), (22, .aload_n 0, 23, []), (23, .iload_n 3, 24, []), (24, .iload 4, 26, []), (26, .invokevirtual 230, 29, []), (29, .ireturn, 30, [])]
theorem ok_X7_mayWant : ∀ x ∈ C_X7_mayWant, am_ok cX7_mayWant 6 x = true := by decide +kernel
noncomputable def P_X7_mayWant : AP := (PF_RX7, PK_RX7, PS_RX7, [(209, 2, F_X7_isWord), (227, 1, F_X7_advance), (230, 3, F_X7_wantNumber)], [], [])
noncomputable def f_X7_mayWant (a1 : Int64) (a2 : Int32) (a3 : Int32) (a4 : Int32) (h : HP) : Option (Int32 × HP) := if h_rI h 7 0 10 = (0 : Int32) then (some (a4, h)) else ((f_X7_isWord a1 h).bind (fun q_1 => if q_1.1 = (0 : Int32) then (some (a4, q_1.2)) else ((f_X7_advance q_1.2).bind (fun q_2 => (f_X7_wantNumber a2 a3 q_2).bind (fun q_3 => some (q_3.1, q_3.2))))))
noncomputable def fl_X7_mayWant : List AV → HP → Option (Int32 × HP) := fun as h => match as with
  | [.inr (.inr (.inl (7, 0))), .inr (.inl a1), .inl a2, .inl a3, .inl a4] => f_X7_mayWant a1 a2 a3 a4 h
  | _ => none
noncomputable def F_X7_mayWant : AF := .inl fl_X7_mayWant
set_option maxRecDepth 20000 in
theorem b_X7_mayWant (l : Launch) (G : AG) : am_B l G 6 cX7_mayWant RX7 am_tb P_X7_mayWant am_rI fl_X7_mayWant := by
  intro p e R s m args below meth c cells slots Q CX as h r q
  unfold fl_X7_mayWant at q
  split at q
  · exact am_run_ok CX ok_X7_mayWant (K := []) (am_K0 (Wp := am_W p l e R s m args below meth c cells slots G 6 (Q r))) 17 0 _ _ _ q
  · cases q
theorem s_X7_mayWant : ∀ as h x, fl_X7_mayWant as h = some x → (∀ k, (some 7 : Option Nat) = some k → ∃ (j : Nat) (as' : List AV), as = .inr (.inr (.inl (k, j))) :: as') ∧ (am_l0 as).length ≤ 6 := by
  intro as h x q
  unfold fl_X7_mayWant at q
  split at q
  · exact ⟨fun k e => by cases e; exact ⟨_, _, rfl⟩, Nat.le_of_ble_eq_true rfl⟩
  · cases q
theorem M_X7_mayWant (l : Launch) (G : AG) : am_M l G yX7_mayWant cX7_mayWant 6 (some .int) 4 86 (some 7) F_X7_mayWant := am_M_of (f := fl_X7_mayWant) (toR := fun x => (some (.inl x.1), x.2)) (P := P_X7_mayWant) (Rr := am_rI) (own := RX7) (by decide) rfl (fun _ _ => rfl) s_X7_mayWant am_wrI am_rkI pf_RX7 pk_RX7 ps_RX7 (List.forall_mem_cons.mpr ⟨cv_RX7_209 l G (by decide) (by decide), (List.forall_mem_cons.mpr ⟨cv_RX7_227 l G (by decide) (by decide), (List.forall_mem_cons.mpr ⟨cv_RX7_230 l G (by decide) (by decide), (fun _ q => by cases q)⟩)⟩)⟩) (fun _ q => by cases q) (fun _ q => by cases q) (b_X7_mayWant l G)
def C_X7_wantWord : List AC := [(0, .aload_n 0, 1, []), (1, .aload_n 0, 2, []), (2, .getfield 223, 5, []), (5, .ifCond .eq 15, 8, [20]), (8, .aload_n 0, 9, []), (9, .lload_n 1, 10, []), (10, .invokevirtual 209, 13, []), (13, .ifCond .eq 7, 16, [20]), (16, .iconst 1, 17, []), (17, .goto 4, 20, [21]), (20, .iconst 0, 21, []), (21, .putfield 223, 24, []), (24, .aload_n 0, 25, []), (25, .getfield 223, 28, []), (28, .ifCond .eq 7, 31, [35]), (31, .aload_n 0, 32, []), (32, .invokevirtual 227, 35, []), (35, .return_, 36, [])]
theorem ok_X7_wantWord : ∀ x ∈ C_X7_wantWord, am_ok cX7_wantWord 3 x = true := by decide +kernel
noncomputable def P_X7_wantWord : AP := (PF_RX7, PK_RX7, PS_RX7, [(209, 2, F_X7_isWord), (227, 1, F_X7_advance)], [], [])
noncomputable def g_X7_wantWord_21 (a1 : Int32) (h : HP) : Option HP := if a1 &&& 1 = a1 then (if h_rI (h_wI h 7 0 10 a1) 7 0 10 = (0 : Int32) then (some (h_wI h 7 0 10 a1)) else ((f_X7_advance (h_wI h 7 0 10 a1)).bind (fun q_1 => some q_1))) else none
def pk_X7_wantWord_21 (k : Int32 → HP → Option HP) : List AV → List AV → HP → Option HP := fun L st h => match L, st with
  | [.inr (.inr (.inl (7, 0))), .inr (.inl _), .inr (.inr (.inr ()))], [.inl a1, .inr (.inr (.inl (7, 0)))] => k a1 h
  | _, _ => none
theorem pk_X7_wantWord_21_ok {Wp : List AV → List AV → HP → Prop} {r : HP} {k : Int32 → HP → Option HP} (hk : ∀ (a1 : Int32) (w1 : Int64) (h : HP), k a1 h = some r → Wp [.inr (.inr (.inl (7, 0))), .inr (.inl w1), .inr (.inr (.inr ()))] [.inl a1, .inr (.inr (.inl (7, 0)))] h) : ∀ L st h, pk_X7_wantWord_21 k L st h = some r → Wp L st h := by
  intro L st h q
  unfold pk_X7_wantWord_21 at q
  split at q
  · exact hk _ _ _ q
  · cases q
noncomputable def f_X7_wantWord (a1 : Int64) (h : HP) : Option HP := if h_rI h 7 0 10 = (0 : Int32) then (g_X7_wantWord_21 0 h) else ((f_X7_isWord a1 h).bind (fun q_1 => if q_1.1 = (0 : Int32) then (g_X7_wantWord_21 0 q_1.2) else (g_X7_wantWord_21 1 q_1.2)))
noncomputable def fl_X7_wantWord : List AV → HP → Option HP := fun as h => match as with
  | [.inr (.inr (.inl (7, 0))), .inr (.inl a1)] => f_X7_wantWord a1 h
  | _ => none
noncomputable def F_X7_wantWord : AF := .inr (.inl fl_X7_wantWord)
set_option maxRecDepth 20000 in
theorem w_X7_wantWord_21 {p : Program} {l : Launch} {e : Env} {R : Room} {s : State} {m : MethodId} {args : Array Value} {below : List Frame} {meth : Method} {c : Code} {cells slots : Nat} {G : AG} {Q : HP → State → Prop} (CX : am_X p l e R s m args below meth c cells slots G 3 cX7_wantWord RX7 am_tb P_X7_wantWord am_rV Q) {r : HP} : ∀ (a1 : Int32) (w1 : Int64) (h : HP), g_X7_wantWord_21 a1 h = some r → am_W p l e R s m args below meth c cells slots G 3 (Q r) 21 [.inr (.inr (.inl (7, 0))), .inr (.inl w1), .inr (.inr (.inr ()))] [.inl a1, .inr (.inr (.inl (7, 0)))] h := by
  intro a1 w1 h q
  exact am_run_ok CX ok_X7_wantWord (K := []) (am_K0 (Wp := am_W p l e R s m args below meth c cells slots G 3 (Q r))) 10 21 _ _ _ q
set_option maxRecDepth 20000 in
theorem b_X7_wantWord (l : Launch) (G : AG) : am_B l G 3 cX7_wantWord RX7 am_tb P_X7_wantWord am_rV fl_X7_wantWord := by
  intro p e R s m args below meth c cells slots Q CX as h r q
  unfold fl_X7_wantWord at q
  split at q
  · exact am_run_ok CX ok_X7_wantWord (K := [(21, pk_X7_wantWord_21 (g_X7_wantWord_21))]) (am_K1 (Wp := am_W p l e R s m args below meth c cells slots G 3 (Q r)) (pk_X7_wantWord_21_ok (Wp := am_W p l e R s m args below meth c cells slots G 3 (Q r) 21) (w_X7_wantWord_21 CX)) am_K0) 13 0 _ _ _ q
  · cases q
theorem s_X7_wantWord : ∀ as h x, fl_X7_wantWord as h = some x → (∀ k, (some 7 : Option Nat) = some k → ∃ (j : Nat) (as' : List AV), as = .inr (.inr (.inl (k, j))) :: as') ∧ (am_l0 as).length ≤ 3 := by
  intro as h x q
  unfold fl_X7_wantWord at q
  split at q
  · exact ⟨fun k e => by cases e; exact ⟨_, _, rfl⟩, Nat.le_of_ble_eq_true rfl⟩
  · cases q
theorem M_X7_wantWord (l : Launch) (G : AG) : am_M l G yX7_wantWord cX7_wantWord 3 none 3 63 (some 7) F_X7_wantWord := am_M_of (f := fl_X7_wantWord) (toR := fun x => (none, x)) (P := P_X7_wantWord) (Rr := am_rV) (own := RX7) (by decide) rfl (fun _ _ => rfl) s_X7_wantWord am_wrV am_rkV pf_RX7 pk_RX7 ps_RX7 (List.forall_mem_cons.mpr ⟨cv_RX7_209 l G (by decide) (by decide), (List.forall_mem_cons.mpr ⟨cv_RX7_227 l G (by decide) (by decide), (fun _ q => by cases q)⟩)⟩) (fun _ q => by cases q) (fun _ q => by cases q) (b_X7_wantWord l G)
theorem cv_RX7_235 (l : Launch) (G : AG) {fr lo : Nat} (h1 : 3 + 1 ≤ fr) (h2 : 8 + (3 + 11) + 63 ≤ lo) : am_cvOK l G RX7 fr lo (235, 2, F_X7_wantWord) := ⟨yX7_wantWord, cX7_wantWord, 3, none, 3, 63, 7, RX7, M_X7_wantWord l G, ⟨(am_tb_mem (wd_24 _ (List.mem_of_getElem? (i := 4) rfl))), (am_tb_mem (wd_24 _ (List.mem_of_getElem? (i := 5) rfl))), (am_tb_mem (wd_1 _ (List.mem_of_getElem? (i := 11) rfl))), (am_tb_mem (wd_1 _ (List.mem_of_getElem? (i := 26) rfl))), (am_tb_mem (wd_24 _ (List.mem_of_getElem? (i := 6) rfl)))⟩, ⟨rfl, by decide, by decide, by decide +kernel⟩, Or.inl ⟨by decide, rfl⟩, h1, h2⟩
theorem cv_RX7_243 (l : Launch) (G : AG) {fr lo : Nat} (h1 : 4 + 1 ≤ fr) (h2 : 8 + (6 + 11) + 86 ≤ lo) : am_cvOK l G RX7 fr lo (243, 5, F_X7_mayWant) := ⟨yX7_mayWant, cX7_mayWant, 6, (some .int), 4, 86, 7, RX7, M_X7_mayWant l G, ⟨(am_tb_mem (wd_24 _ (List.mem_of_getElem? (i := 12) rfl))), (am_tb_mem (wd_24 _ (List.mem_of_getElem? (i := 13) rfl))), (am_tb_mem (wd_1 _ (List.mem_of_getElem? (i := 13) rfl))), (am_tb_mem (wd_1 _ (List.mem_of_getElem? (i := 26) rfl))), (am_tb_mem (wd_24 _ (List.mem_of_getElem? (i := 14) rfl)))⟩, ⟨rfl, by decide, by decide, by decide +kernel⟩, Or.inl ⟨by decide, rfl⟩, h1, h2⟩
def C_X7_wantHandle : List AC := [(0, .aload_n 0, 1, []), (1, .aload_n 0, 2, []), (2, .getfield 7, 5, []), (5, .iconst 2, 6, []), (6, .iaload, 7, []), (7, .bipush 8, 9, []), (9, .if_icmp .ge 7, 12, [16]), (12, .iconst 1, 13, []), (13, .goto 4, 16, [17]), (16, .iconst 0, 17, []), (17, .putfield 223, 20, []), (20, .aload_n 0, 21, []), (21, .getfield 223, 24, []), (24, .ifCond .ne 4, 27, [28]), (27, .return_, 28, []), (28, .aload_n 0, 29, []), (29, .invokevirtual 227, 32, []), (32, .aload_n 0, 33, []), (33, .ldc2_w 233, 36, []), (36, .invokevirtual 235, 39, []), (39, .aload_n 0, 40, []), (40, .iconst 0, 41, []), (41, .bipush 15, 43, []), (43, .invokevirtual 230, 46, []), (46, .istore_n 2, 47, []), (47, .aload_n 0, 48, []), (48, .ldc2_w 239, 51, []), (51, .invokevirtual 235, 54, []), (54, .aload_n 0, 55, []), (55, .iconst 0, 56, []), (56, .bipush 15, 58, []), (58, .invokevirtual 230, 61, []), (61, .istore_n 3, 62, []), (62, .aload_n 0, 63, []), (63, .ldc2_w 241, 66, []), (66, .iconst 0, 67, []), (67, .bipush 99, 69, []), (69, .iconst 0, 70, []), (70, .invokevirtual 243, 73, []), (73, .istore 4, 75, []), (75, .aload_n 0, 76, []), (76, .getfield 223, 79, []), (79, .ifCond .eq 12, 82, [91]), (82, .aload_n 0, 83, []), (83, .iload_n 1, 84, []), (84, .iload_n 2, 85, []), (85, .iload_n 3, 86, []), (86, .iload 4, 88, []), (88, .invokevirtual 82, 91, []), (91, .return_, 92, [])]
theorem ok_X7_wantHandle : ∀ x ∈ C_X7_wantHandle, am_ok cX7_wantHandle 5 x = true := by decide +kernel
noncomputable def P_X7_wantHandle : AP := (PF_RX7, PK_RX7, PS_RX7, [(82, 5, F_X7_addHandle), (227, 1, F_X7_advance), (230, 3, F_X7_wantNumber), (235, 2, F_X7_wantWord), (243, 5, F_X7_mayWant)], [], [])
noncomputable def g_X7_wantHandle_17 (a1 : Int32) (a2 : Int32) (h : HP) : Option HP := if a2 &&& 1 = a2 then (if h_rI (h_wI h 7 0 10 a2) 7 0 10 = (0 : Int32) then (some (h_wI h 7 0 10 a2)) else ((f_X7_advance (h_wI h 7 0 10 a2)).bind (fun q_1 => (f_X7_wantWord 131638 q_1).bind (fun q_2 => (f_X7_wantNumber 0 15 q_2).bind (fun q_3 => (f_X7_wantWord 555 q_3.2).bind (fun q_4 => (f_X7_wantNumber 0 15 q_4).bind (fun q_5 => (f_X7_mayWant 456399 0 99 0 q_5.2).bind (fun q_6 => if h_rI q_6.2 7 0 10 = (0 : Int32) then (some q_6.2) else ((f_X7_addHandle a1 q_3.1 q_5.1 q_6.1 q_6.2).bind (fun q_7 => some q_7)))))))))) else none
def pk_X7_wantHandle_17 (k : Int32 → Int32 → HP → Option HP) : List AV → List AV → HP → Option HP := fun L st h => match L, st with
  | [.inr (.inr (.inl (7, 0))), .inl a1, .inr (.inr (.inr ())), .inr (.inr (.inr ())), .inr (.inr (.inr ()))], [.inl a2, .inr (.inr (.inl (7, 0)))] => k a1 a2 h
  | _, _ => none
theorem pk_X7_wantHandle_17_ok {Wp : List AV → List AV → HP → Prop} {r : HP} {k : Int32 → Int32 → HP → Option HP} (hk : ∀ (a1 : Int32) (a2 : Int32) (h : HP), k a1 a2 h = some r → Wp [.inr (.inr (.inl (7, 0))), .inl a1, .inr (.inr (.inr ())), .inr (.inr (.inr ())), .inr (.inr (.inr ()))] [.inl a2, .inr (.inr (.inl (7, 0)))] h) : ∀ L st h, pk_X7_wantHandle_17 k L st h = some r → Wp L st h := by
  intro L st h q
  unfold pk_X7_wantHandle_17 at q
  split at q
  · exact hk _ _ _ q
  · cases q
noncomputable def f_X7_wantHandle (a1 : Int32) (h : HP) : Option HP := (am_ix (2 : Int32) 64).bind (fun k_1 => if (8 : Int32) ≤ h_rI h 13 0 k_1 then (g_X7_wantHandle_17 a1 0 h) else (g_X7_wantHandle_17 a1 1 h))
noncomputable def fl_X7_wantHandle : List AV → HP → Option HP := fun as h => match as with
  | [.inr (.inr (.inl (7, 0))), .inl a1] => f_X7_wantHandle a1 h
  | _ => none
noncomputable def F_X7_wantHandle : AF := .inr (.inl fl_X7_wantHandle)
set_option maxRecDepth 20000 in
theorem w_X7_wantHandle_17 {p : Program} {l : Launch} {e : Env} {R : Room} {s : State} {m : MethodId} {args : Array Value} {below : List Frame} {meth : Method} {c : Code} {cells slots : Nat} {G : AG} {Q : HP → State → Prop} (CX : am_X p l e R s m args below meth c cells slots G 5 cX7_wantHandle RX7 am_tb P_X7_wantHandle am_rV Q) {r : HP} : ∀ (a1 : Int32) (a2 : Int32) (h : HP), g_X7_wantHandle_17 a1 a2 h = some r → am_W p l e R s m args below meth c cells slots G 5 (Q r) 17 [.inr (.inr (.inl (7, 0))), .inl a1, .inr (.inr (.inr ())), .inr (.inr (.inr ())), .inr (.inr (.inr ()))] [.inl a2, .inr (.inr (.inl (7, 0)))] h := by
  intro a1 a2 h q
  exact am_run_ok CX ok_X7_wantHandle (K := []) (am_K0 (Wp := am_W p l e R s m args below meth c cells slots G 5 (Q r))) 42 17 _ _ _ q
set_option maxRecDepth 20000 in
theorem b_X7_wantHandle (l : Launch) (G : AG) : am_B l G 5 cX7_wantHandle RX7 am_tb P_X7_wantHandle am_rV fl_X7_wantHandle := by
  intro p e R s m args below meth c cells slots Q CX as h r q
  unfold fl_X7_wantHandle at q
  split at q
  · exact am_run_ok CX ok_X7_wantHandle (K := [(17, pk_X7_wantHandle_17 (g_X7_wantHandle_17))]) (am_K1 (Wp := am_W p l e R s m args below meth c cells slots G 5 (Q r)) (pk_X7_wantHandle_17_ok (Wp := am_W p l e R s m args below meth c cells slots G 5 (Q r) 17) (w_X7_wantHandle_17 CX)) am_K0) 12 0 _ _ _ q
  · cases q
theorem s_X7_wantHandle : ∀ as h x, fl_X7_wantHandle as h = some x → (∀ k, (some 7 : Option Nat) = some k → ∃ (j : Nat) (as' : List AV), as = .inr (.inr (.inl (k, j))) :: as') ∧ (am_l0 as).length ≤ 5 := by
  intro as h x q
  unfold fl_X7_wantHandle at q
  split at q
  · exact ⟨fun k e => by cases e; exact ⟨_, _, rfl⟩, Nat.le_of_ble_eq_true rfl⟩
  · cases q
theorem M_X7_wantHandle (l : Launch) (G : AG) : am_M l G yX7_wantHandle cX7_wantHandle 5 none 5 111 (some 7) F_X7_wantHandle := am_M_of (f := fl_X7_wantHandle) (toR := fun x => (none, x)) (P := P_X7_wantHandle) (Rr := am_rV) (own := RX7) (by decide) rfl (fun _ _ => rfl) s_X7_wantHandle am_wrV am_rkV pf_RX7 pk_RX7 ps_RX7 (List.forall_mem_cons.mpr ⟨cv_RX7_82 l G (by decide) (by decide), (List.forall_mem_cons.mpr ⟨cv_RX7_227 l G (by decide) (by decide), (List.forall_mem_cons.mpr ⟨cv_RX7_230 l G (by decide) (by decide), (List.forall_mem_cons.mpr ⟨cv_RX7_235 l G (by decide) (by decide), (List.forall_mem_cons.mpr ⟨cv_RX7_243 l G (by decide) (by decide), (fun _ q => by cases q)⟩)⟩)⟩)⟩)⟩) (fun _ q => by cases q) (fun _ q => by cases q) (b_X7_wantHandle l G)
def C_X7_wantMember : List AC := [(0, .aload_n 0, 1, []), (1, .aload_n 0, 2, []), (2, .getfield 7, 5, []), (5, .iconst 3, 6, []), (6, .iaload, 7, []), (7, .bipush 6, 9, []), (9, .if_icmp .ge 7, 12, [16]), (12, .iconst 1, 13, []), (13, .goto 4, 16, [17]), (16, .iconst 0, 17, []), (17, .putfield 223, 20, []), (20, .aload_n 0, 21, []), (21, .getfield 223, 24, []), (24, .ifCond .ne 4, 27, [28]), (27, .return_, 28, []), (28, .aload_n 0, 29, []), (29, .invokevirtual 227, 32, []), (32, .aload_n 0, 33, []), (33, .ldc2_w 247, 36, []), (36, .iconst 0, 37, []), (37, .bipush 15, 39, []), (39, .iconst 0, 40, []), (40, .invokevirtual 243, 43, []), (43, .istore_n 1, 44, []), (44, .aload_n 0, 45, []), (45, .getfield 223, 48, []), (48, .ifCond .eq 8, 51, [56]), (51, .aload_n 0, 52, []), (52, .iload_n 1, 53, []), (53, .invokevirtual 104, 56, []), (56, .return_, 57, [])]
theorem ok_X7_wantMember : ∀ x ∈ C_X7_wantMember, am_ok cX7_wantMember 2 x = true := by decide +kernel
noncomputable def P_X7_wantMember : AP := (PF_RX7, PK_RX7, PS_RX7, [(104, 2, F_X7_addMember), (227, 1, F_X7_advance), (243, 5, F_X7_mayWant)], [], [])
noncomputable def g_X7_wantMember_17 (a1 : Int32) (h : HP) : Option HP := if a1 &&& 1 = a1 then (if h_rI (h_wI h 7 0 10 a1) 7 0 10 = (0 : Int32) then (some (h_wI h 7 0 10 a1)) else ((f_X7_advance (h_wI h 7 0 10 a1)).bind (fun q_1 => (f_X7_mayWant 47 0 15 0 q_1).bind (fun q_2 => if h_rI q_2.2 7 0 10 = (0 : Int32) then (some q_2.2) else ((f_X7_addMember q_2.1 q_2.2).bind (fun q_3 => some q_3)))))) else none
def pk_X7_wantMember_17 (k : Int32 → HP → Option HP) : List AV → List AV → HP → Option HP := fun L st h => match L, st with
  | [.inr (.inr (.inl (7, 0))), .inr (.inr (.inr ()))], [.inl a1, .inr (.inr (.inl (7, 0)))] => k a1 h
  | _, _ => none
theorem pk_X7_wantMember_17_ok {Wp : List AV → List AV → HP → Prop} {r : HP} {k : Int32 → HP → Option HP} (hk : ∀ (a1 : Int32) (h : HP), k a1 h = some r → Wp [.inr (.inr (.inl (7, 0))), .inr (.inr (.inr ()))] [.inl a1, .inr (.inr (.inl (7, 0)))] h) : ∀ L st h, pk_X7_wantMember_17 k L st h = some r → Wp L st h := by
  intro L st h q
  unfold pk_X7_wantMember_17 at q
  split at q
  · exact hk _ _ q
  · cases q
noncomputable def f_X7_wantMember  (h : HP) : Option HP := (am_ix (3 : Int32) 64).bind (fun k_1 => if (6 : Int32) ≤ h_rI h 13 0 k_1 then (g_X7_wantMember_17 0 h) else (g_X7_wantMember_17 1 h))
noncomputable def fl_X7_wantMember : List AV → HP → Option HP := fun as h => match as with
  | [.inr (.inr (.inl (7, 0)))] => f_X7_wantMember h
  | _ => none
noncomputable def F_X7_wantMember : AF := .inr (.inl fl_X7_wantMember)
set_option maxRecDepth 20000 in
theorem w_X7_wantMember_17 {p : Program} {l : Launch} {e : Env} {R : Room} {s : State} {m : MethodId} {args : Array Value} {below : List Frame} {meth : Method} {c : Code} {cells slots : Nat} {G : AG} {Q : HP → State → Prop} (CX : am_X p l e R s m args below meth c cells slots G 2 cX7_wantMember RX7 am_tb P_X7_wantMember am_rV Q) {r : HP} : ∀ (a1 : Int32) (h : HP), g_X7_wantMember_17 a1 h = some r → am_W p l e R s m args below meth c cells slots G 2 (Q r) 17 [.inr (.inr (.inl (7, 0))), .inr (.inr (.inr ()))] [.inl a1, .inr (.inr (.inl (7, 0)))] h := by
  intro a1 h q
  exact am_run_ok CX ok_X7_wantMember (K := []) (am_K0 (Wp := am_W p l e R s m args below meth c cells slots G 2 (Q r))) 23 17 _ _ _ q
set_option maxRecDepth 20000 in
theorem b_X7_wantMember (l : Launch) (G : AG) : am_B l G 2 cX7_wantMember RX7 am_tb P_X7_wantMember am_rV fl_X7_wantMember := by
  intro p e R s m args below meth c cells slots Q CX as h r q
  unfold fl_X7_wantMember at q
  split at q
  · exact am_run_ok CX ok_X7_wantMember (K := [(17, pk_X7_wantMember_17 (g_X7_wantMember_17))]) (am_K1 (Wp := am_W p l e R s m args below meth c cells slots G 2 (Q r)) (pk_X7_wantMember_17_ok (Wp := am_W p l e R s m args below meth c cells slots G 2 (Q r) 17) (w_X7_wantMember_17 CX)) am_K0) 12 0 _ _ _ q
  · cases q
theorem s_X7_wantMember : ∀ as h x, fl_X7_wantMember as h = some x → (∀ k, (some 7 : Option Nat) = some k → ∃ (j : Nat) (as' : List AV), as = .inr (.inr (.inl (k, j))) :: as') ∧ (am_l0 as).length ≤ 2 := by
  intro as h x q
  unfold fl_X7_wantMember at q
  split at q
  · exact ⟨fun k e => by cases e; exact ⟨_, _, rfl⟩, Nat.le_of_ble_eq_true rfl⟩
  · cases q
theorem M_X7_wantMember (l : Launch) (G : AG) : am_M l G yX7_wantMember cX7_wantMember 2 none 5 111 (some 7) F_X7_wantMember := am_M_of (f := fl_X7_wantMember) (toR := fun x => (none, x)) (P := P_X7_wantMember) (Rr := am_rV) (own := RX7) (by decide) rfl (fun _ _ => rfl) s_X7_wantMember am_wrV am_rkV pf_RX7 pk_RX7 ps_RX7 (List.forall_mem_cons.mpr ⟨cv_RX7_104 l G (by decide) (by decide), (List.forall_mem_cons.mpr ⟨cv_RX7_227 l G (by decide) (by decide), (List.forall_mem_cons.mpr ⟨cv_RX7_243 l G (by decide) (by decide), (fun _ q => by cases q)⟩)⟩)⟩) (fun _ q => by cases q) (fun _ q => by cases q) (b_X7_wantMember l G)
theorem cv_RX7_249 (l : Launch) (G : AG) {fr lo : Nat} (h1 : 1 + 1 ≤ fr) (h2 : 8 + (1 + 11) + 22 ≤ lo) : am_cvOK l G RX7 fr lo (249, 1, F_X7_kindHere) := ⟨yX7_kindHere, cX7_kindHere, 1, (some .int), 1, 22, 7, RX7, M_X7_kindHere l G, ⟨(am_tb_mem (wd_23 _ (List.mem_of_getElem? (i := 28) rfl))), (am_tb_mem (wd_23 _ (List.mem_of_getElem? (i := 29) rfl))), (am_tb_mem (wd_1 _ (List.mem_of_getElem? (i := 8) rfl))), (am_tb_mem (wd_1 _ (List.mem_of_getElem? (i := 26) rfl))), (am_tb_mem (wd_23 _ (List.mem_of_getElem? (i := 30) rfl)))⟩, ⟨rfl, by decide, by decide, by decide +kernel⟩, Or.inl ⟨by decide, rfl⟩, h1, h2⟩
theorem cv_RX7_252 (l : Launch) (G : AG) {fr lo : Nat} (h1 : 5 + 1 ≤ fr) (h2 : 8 + (5 + 11) + 111 ≤ lo) : am_cvOK l G RX7 fr lo (252, 2, F_X7_wantHandle) := ⟨yX7_wantHandle, cX7_wantHandle, 5, none, 5, 111, 7, RX7, M_X7_wantHandle l G, ⟨(am_tb_mem (wd_24 _ (List.mem_of_getElem? (i := 0) rfl))), (am_tb_mem (wd_24 _ (List.mem_of_getElem? (i := 1) rfl))), (am_tb_mem (wd_1 _ (List.mem_of_getElem? (i := 10) rfl))), (am_tb_mem (wd_1 _ (List.mem_of_getElem? (i := 26) rfl))), (am_tb_mem (wd_24 _ (List.mem_of_getElem? (i := 2) rfl)))⟩, ⟨rfl, by decide, by decide, by decide +kernel⟩, Or.inl ⟨by decide, rfl⟩, h1, h2⟩
theorem cv_RX7_257 (l : Launch) (G : AG) {fr lo : Nat} (h1 : 5 + 1 ≤ fr) (h2 : 8 + (2 + 11) + 111 ≤ lo) : am_cvOK l G RX7 fr lo (257, 1, F_X7_wantMember) := ⟨yX7_wantMember, cX7_wantMember, 2, none, 5, 111, 7, RX7, M_X7_wantMember l G, ⟨(am_tb_mem (wd_24 _ (List.mem_of_getElem? (i := 16) rfl))), (am_tb_mem (wd_24 _ (List.mem_of_getElem? (i := 17) rfl))), (am_tb_mem (wd_1 _ (List.mem_of_getElem? (i := 14) rfl))), (am_tb_mem (wd_1 _ (List.mem_of_getElem? (i := 26) rfl))), (am_tb_mem (wd_24 _ (List.mem_of_getElem? (i := 18) rfl)))⟩, ⟨rfl, by decide, by decide, by decide +kernel⟩, Or.inl ⟨by decide, rfl⟩, h1, h2⟩
def C_X7_wantItem : List AC := [(0, .aload_n 0, 1, []), (1, .invokevirtual 249, 4, []), (4, .ifCond .lt 14, 7, [18]), (7, .aload_n 0, 8, []), (8, .aload_n 0, 9, []), (9, .invokevirtual 249, 12, []), (12, .invokevirtual 252, 15, []), (15, .goto 73, 18, [88]), (18, .aload_n 0, 19, []), (19, .ldc2_w 255, 22, []), (22, .invokevirtual 209, 25, []), (25, .ifCond .eq 10, 28, [35]), (28, .aload_n 0, 29, []), (29, .invokevirtual 257, 32, []), (32, .goto 56, 35, [88]), (35, .aload_n 0, 36, []), (36, .ldc2_w 260, 39, []), (39, .invokevirtual 209, 42, []), (42, .ifCond .eq 41, 45, [83]), (45, .aload_n 0, 46, []), (46, .invokevirtual 227, 49, []), (49, .aload_n 0, 50, []), (50, .iconst 0, 51, []), (51, .bipush 30, 53, []), (53, .invokevirtual 230, 56, []), (56, .istore_n 1, 57, []), (57, .aload_n 0, 58, []), (58, .getfield 7, 61, []), (61, .iconst 1, 62, []), (62, .aload_n 0, 63, []), (63, .getfield 223, 66, []), (66, .ifCond .eq 7, 69, [73]), (69, .iload_n 1, 70, []), (70, .goto 9, 73, [79]), (73, .aload_n 0, 74, []), (74, .getfield 7, 77, []), (77, .iconst 1, 78, []), (78, .iaload, 79, []), (79, .iastore, 80, []), (80, .goto 8, 83, [88]), (83, .aload_n 0, 84, []), (84, .iconst 0, 85, []), (85, .putfield 223, 88, []), (88, .return_, 89, [])]
theorem ok_X7_wantItem : ∀ x ∈ C_X7_wantItem, am_ok cX7_wantItem 2 x = true := by decide +kernel
noncomputable def P_X7_wantItem : AP := (PF_RX7, PK_RX7, PS_RX7, [(209, 2, F_X7_isWord), (227, 1, F_X7_advance), (230, 3, F_X7_wantNumber), (249, 1, F_X7_kindHere), (252, 2, F_X7_wantHandle), (257, 1, F_X7_wantMember)], [], [])
noncomputable def f_X7_wantItem  (h : HP) : Option HP := (f_X7_kindHere h).bind (fun q_1 => if q_1.1 < (0 : Int32) then ((f_X7_isWord 189450486 q_1.2).bind (fun q_2 => if q_2.1 = (0 : Int32) then ((f_X7_isWord 247172 q_2.2).bind (fun q_3 => if q_3.1 = (0 : Int32) then (some (h_wI q_3.2 7 0 10 0)) else ((f_X7_advance q_3.2).bind (fun q_4 => (f_X7_wantNumber 0 30 q_4).bind (fun q_5 => if h_rI q_5.2 7 0 10 = (0 : Int32) then ((am_ix (1 : Int32) 64).bind (fun k_6 => (am_ix (1 : Int32) 64).bind (fun k_7 => some (h_wI q_5.2 13 0 k_7 (h_rI q_5.2 13 0 k_6))))) else ((am_ix (1 : Int32) 64).bind (fun k_8 => some (h_wI q_5.2 13 0 k_8 q_5.1)))))))) else ((f_X7_wantMember q_2.2).bind (fun q_9 => some q_9)))) else ((f_X7_kindHere q_1.2).bind (fun q_10 => (f_X7_wantHandle q_10.1 q_10.2).bind (fun q_11 => some q_11))))
noncomputable def fl_X7_wantItem : List AV → HP → Option HP := fun as h => match as with
  | [.inr (.inr (.inl (7, 0)))] => f_X7_wantItem h
  | _ => none
noncomputable def F_X7_wantItem : AF := .inr (.inl fl_X7_wantItem)
set_option maxRecDepth 20000 in
theorem b_X7_wantItem (l : Launch) (G : AG) : am_B l G 2 cX7_wantItem RX7 am_tb P_X7_wantItem am_rV fl_X7_wantItem := by
  intro p e R s m args below meth c cells slots Q CX as h r q
  unfold fl_X7_wantItem at q
  split at q
  · exact am_run_ok CX ok_X7_wantItem (K := []) (am_K0 (Wp := am_W p l e R s m args below meth c cells slots G 2 (Q r))) 34 0 _ _ _ q
  · cases q
theorem s_X7_wantItem : ∀ as h x, fl_X7_wantItem as h = some x → (∀ k, (some 7 : Option Nat) = some k → ∃ (j : Nat) (as' : List AV), as = .inr (.inr (.inl (k, j))) :: as') ∧ (am_l0 as).length ≤ 2 := by
  intro as h x q
  unfold fl_X7_wantItem at q
  split at q
  · exact ⟨fun k e => by cases e; exact ⟨_, _, rfl⟩, Nat.le_of_ble_eq_true rfl⟩
  · cases q
theorem M_X7_wantItem (l : Launch) (G : AG) : am_M l G yX7_wantItem cX7_wantItem 2 none 6 135 (some 7) F_X7_wantItem := am_M_of (f := fl_X7_wantItem) (toR := fun x => (none, x)) (P := P_X7_wantItem) (Rr := am_rV) (own := RX7) (by decide) rfl (fun _ _ => rfl) s_X7_wantItem am_wrV am_rkV pf_RX7 pk_RX7 ps_RX7 (List.forall_mem_cons.mpr ⟨cv_RX7_209 l G (by decide) (by decide), (List.forall_mem_cons.mpr ⟨cv_RX7_227 l G (by decide) (by decide), (List.forall_mem_cons.mpr ⟨cv_RX7_230 l G (by decide) (by decide), (List.forall_mem_cons.mpr ⟨cv_RX7_249 l G (by decide) (by decide), (List.forall_mem_cons.mpr ⟨cv_RX7_252 l G (by decide) (by decide), (List.forall_mem_cons.mpr ⟨cv_RX7_257 l G (by decide) (by decide), (fun _ q => by cases q)⟩)⟩)⟩)⟩)⟩)⟩) (fun _ q => by cases q) (fun _ q => by cases q) (b_X7_wantItem l G)
theorem cv_RX7_262 (l : Launch) (G : AG) {fr lo : Nat} (h1 : 6 + 1 ≤ fr) (h2 : 8 + (2 + 11) + 135 ≤ lo) : am_cvOK l G RX7 fr lo (262, 1, F_X7_wantItem) := ⟨yX7_wantItem, cX7_wantItem, 2, none, 6, 135, 7, RX7, M_X7_wantItem l G, ⟨(am_tb_mem (wd_23 _ (List.mem_of_getElem? (i := 25) rfl))), (am_tb_mem (wd_23 _ (List.mem_of_getElem? (i := 26) rfl))), (am_tb_mem (wd_1 _ (List.mem_of_getElem? (i := 7) rfl))), (am_tb_mem (wd_1 _ (List.mem_of_getElem? (i := 26) rfl))), (am_tb_mem (wd_23 _ (List.mem_of_getElem? (i := 27) rfl)))⟩, ⟨rfl, by decide, by decide, by decide +kernel⟩, Or.inl ⟨by decide, rfl⟩, h1, h2⟩
def C_X7_house : List AC := [(0, .aload_n 0, 1, []), (1, .iconst 1, 2, []), (2, .aload_n 0, 3, []), (3, .getfield 38, 6, []), (6, .invokevirtual 159, 9, []), (9, .aload_n 0, 10, []), (10, .iconst 0, 11, []), (11, .putfield 176, 14, []), (14, .aload_n 0, 15, []), (15, .iconst 1, 16, []), (16, .putfield 223, 19, []), (19, .iconst 0, 20, []), (20, .istore_n 1, 21, []), (21, .iconst 1, 22, []), (22, .istore_n 2, 23, []), (23, .iload_n 2, 24, []), (24, .ifCond .eq 47, 27, [71]), (27, .aload_n 0, 28, []), (28, .invokevirtual 227, 31, []), (31, .aload_n 0, 32, []), (32, .invokevirtual 262, 35, []), (35, .iinc 1 1, 38, []), (38, .aload_n 0, 39, []), (39, .getfield 223, 42, []), (42, .ifCond .eq 24, 45, [66]), (45, .aload_n 0, 46, []), (46, .getfield 191, 49, []), (49, .iconst 3, 50, []), (50, .if_icmp .ne 16, 53, [66]), (53, .aload_n 0, 54, []), (54, .getfield 198, 57, []), (57, .bipush 59, 59, []), (59, .if_icmp .ne 7, 62, [66]), (62, .iconst 1, 63, []), (63, .goto 4, 66, [67]), (66, .iconst 0, 67, []), (67, .istore_n 2, 68, []), (68, .goto (-45), 71, [23]), (71, .aload_n 0, 72, []), (72, .aload_n 0, 73, []), (73, .getfield 223, 76, []), (76, .ifCond .eq 14, 79, [90]), (79, .aload_n 0, 80, []), (80, .getfield 191, 83, []), (83, .ifCond .ne 7, 86, [90]), (86, .iconst 1, 87, []), (87, .goto 4, 90, [91]), (90, .iconst 0, 91, []), (91, .putfield 223, 94, []), (94, .aload_n 0, 95, []), (95, .iconst 0, 96, []), (96, .putfield 172, 99, []), (99, .aload_n 0, 100, []), (100, .getfield 223, 103, []), (103, .ifCond .ne 19, 106, [122]), (106, .aload_n 0, 107, []), (107, .iconst 0, 108, []), (108, .aload_n 0, 109, []), (109, .getfield 38, 112, []), (112, .invokevirtual 159, 115, []), (115, .iconst (-1), 116, []), (116, .aload_n 0, 117, []), (117, .getfield 179, 120, []), (120, .isub, 121, []), (121, .ireturn, 122, []), (122, .iload_n 1, 123, []), (123, .ireturn, 124, [])]
theorem ok_X7_house : ∀ x ∈ C_X7_house, am_ok cX7_house 3 x = true := by decide +kernel
noncomputable def P_X7_house : AP := (PF_RX7, PK_RX7, PS_RX7, [(159, 3, F_X7_moveAll), (227, 1, F_X7_advance), (262, 1, F_X7_wantItem)], [], [])
noncomputable def g_X7_house_91 (a1 : Int32) (a2 : Int32) (h : HP) : Option (Int32 × HP) := if a2 &&& 1 = a2 then (if h_rI (h_wI (h_wI h 7 0 10 a2) 7 0 4 0) 7 0 10 = (0 : Int32) then ((f_X7_moveAll 0 7 (h_wI (h_wI h 7 0 10 a2) 7 0 4 0)).bind (fun q_1 => some (((-1)) - (h_rI q_1 7 0 6), q_1))) else (some (a1, h_wI (h_wI h 7 0 10 a2) 7 0 4 0))) else none
def pk_X7_house_91 (k : Int32 → Int32 → HP → Option (Int32 × HP)) : List AV → List AV → HP → Option (Int32 × HP) := fun L st h => match L, st with
  | [.inr (.inr (.inl (7, 0))), .inl a1, .inl _], [.inl a2, .inr (.inr (.inl (7, 0)))] => k a1 a2 h
  | _, _ => none
theorem pk_X7_house_91_ok {Wp : List AV → List AV → HP → Prop} {r : (Int32 × HP)} {k : Int32 → Int32 → HP → Option (Int32 × HP)} (hk : ∀ (a1 : Int32) (a2 : Int32) (w1 : Int32) (h : HP), k a1 a2 h = some r → Wp [.inr (.inr (.inl (7, 0))), .inl a1, .inl w1] [.inl a2, .inr (.inr (.inl (7, 0)))] h) : ∀ L st h, pk_X7_house_91 k L st h = some r → Wp L st h := by
  intro L st h q
  unfold pk_X7_house_91 at q
  split at q
  · exact hk _ _ _ _ q
  · cases q
noncomputable def g_X7_house_23  : Nat → Int32 → Int32 → HP → Option (Int32 × HP)
  | 0, _, _, _ => none
  | n + 1, a1, a2, h => if a2 = (0 : Int32) then (if h_rI h 7 0 10 = (0 : Int32) then (g_X7_house_91 a1 0 h) else (if h_rI h 7 0 5 = (0 : Int32) then (g_X7_house_91 a1 1 h) else (g_X7_house_91 a1 0 h))) else ((f_X7_advance h).bind (fun q_1 => (f_X7_wantItem q_1).bind (fun q_2 => if h_rI q_2 7 0 10 = (0 : Int32) then (g_X7_house_23 n (a1 + 1) 0 q_2) else (if h_rI q_2 7 0 5 = (3 : Int32) then (if h_rI q_2 7 0 9 = (59 : Int32) then (g_X7_house_23 n (a1 + 1) 1 q_2) else (g_X7_house_23 n (a1 + 1) 0 q_2)) else (g_X7_house_23 n (a1 + 1) 0 q_2)))))
def pk_X7_house_23 (k : Int32 → Int32 → HP → Option (Int32 × HP)) : List AV → List AV → HP → Option (Int32 × HP) := fun L st h => match L, st with
  | [.inr (.inr (.inl (7, 0))), .inl a1, .inl a2], [] => k a1 a2 h
  | _, _ => none
theorem pk_X7_house_23_ok {Wp : List AV → List AV → HP → Prop} {r : (Int32 × HP)} {k : Int32 → Int32 → HP → Option (Int32 × HP)} (hk : ∀ (a1 : Int32) (a2 : Int32) (h : HP), k a1 a2 h = some r → Wp [.inr (.inr (.inl (7, 0))), .inl a1, .inl a2] [] h) : ∀ L st h, pk_X7_house_23 k L st h = some r → Wp L st h := by
  intro L st h q
  unfold pk_X7_house_23 at q
  split at q
  · exact hk _ _ _ q
  · cases q
noncomputable def f_X7_house  (h : HP) : Option (Int32 × HP) := (f_X7_moveAll 1 7 h).bind (fun q_1 => g_X7_house_23 am_fu 0 1 (h_wI (h_wI q_1 7 0 7 0) 7 0 10 1))
noncomputable def fl_X7_house : List AV → HP → Option (Int32 × HP) := fun as h => match as with
  | [.inr (.inr (.inl (7, 0)))] => f_X7_house h
  | _ => none
noncomputable def F_X7_house : AF := .inl fl_X7_house
set_option maxRecDepth 20000 in
theorem w_X7_house_91 {p : Program} {l : Launch} {e : Env} {R : Room} {s : State} {m : MethodId} {args : Array Value} {below : List Frame} {meth : Method} {c : Code} {cells slots : Nat} {G : AG} {Q : (Int32 × HP) → State → Prop} (CX : am_X p l e R s m args below meth c cells slots G 3 cX7_house RX7 am_tb P_X7_house am_rI Q) {r : (Int32 × HP)} : ∀ (a1 : Int32) (a2 : Int32) (w1 : Int32) (h : HP), g_X7_house_91 a1 a2 h = some r → am_W p l e R s m args below meth c cells slots G 3 (Q r) 91 [.inr (.inr (.inl (7, 0))), .inl a1, .inl w1] [.inl a2, .inr (.inr (.inl (7, 0)))] h := by
  intro a1 a2 w1 h q
  exact am_run_ok CX ok_X7_house (K := []) (am_K0 (Wp := am_W p l e R s m args below meth c cells slots G 3 (Q r))) 20 91 _ _ _ q
set_option maxRecDepth 20000 in
theorem w_X7_house_23 {p : Program} {l : Launch} {e : Env} {R : Room} {s : State} {m : MethodId} {args : Array Value} {below : List Frame} {meth : Method} {c : Code} {cells slots : Nat} {G : AG} {Q : (Int32 × HP) → State → Prop} (CX : am_X p l e R s m args below meth c cells slots G 3 cX7_house RX7 am_tb P_X7_house am_rI Q) {r : (Int32 × HP)} : ∀ (n : Nat) (a1 : Int32) (a2 : Int32) (h : HP), g_X7_house_23 n a1 a2 h = some r → am_W p l e R s m args below meth c cells slots G 3 (Q r) 23 [.inr (.inr (.inl (7, 0))), .inl a1, .inl a2] [] h := by
  intro n
  induction n with
  | zero =>
    intro a1 a2 h q
    have q9 : (none : Option (Int32 × HP)) = some r := q
    cases q9
  | succ n ih =>
    intro a1 a2 h q
    exact am_run_ok CX ok_X7_house (K := [(91, pk_X7_house_91 (g_X7_house_91)), (23, pk_X7_house_23 (g_X7_house_23 n))]) (am_K1 (Wp := am_W p l e R s m args below meth c cells slots G 3 (Q r)) (pk_X7_house_91_ok (Wp := am_W p l e R s m args below meth c cells slots G 3 (Q r) 91) (w_X7_house_91 CX)) (am_K1 (Wp := am_W p l e R s m args below meth c cells slots G 3 (Q r)) (pk_X7_house_23_ok (Wp := am_W p l e R s m args below meth c cells slots G 3 (Q r) 23) ih) am_K0)) 25 23 _ _ _ q
set_option maxRecDepth 20000 in
theorem b_X7_house (l : Launch) (G : AG) : am_B l G 3 cX7_house RX7 am_tb P_X7_house am_rI fl_X7_house := by
  intro p e R s m args below meth c cells slots Q CX as h r q
  unfold fl_X7_house at q
  split at q
  · exact am_run_ok CX ok_X7_house (K := [(23, pk_X7_house_23 (g_X7_house_23 am_fu))]) (am_K1 (Wp := am_W p l e R s m args below meth c cells slots G 3 (Q r)) (pk_X7_house_23_ok (Wp := am_W p l e R s m args below meth c cells slots G 3 (Q r) 23) (w_X7_house_23 CX am_fu)) am_K0) 18 0 _ _ _ q
  · cases q
theorem s_X7_house : ∀ as h x, fl_X7_house as h = some x → (∀ k, (some 7 : Option Nat) = some k → ∃ (j : Nat) (as' : List AV), as = .inr (.inr (.inl (k, j))) :: as') ∧ (am_l0 as).length ≤ 3 := by
  intro as h x q
  unfold fl_X7_house at q
  split at q
  · exact ⟨fun k e => by cases e; exact ⟨_, _, rfl⟩, Nat.le_of_ble_eq_true rfl⟩
  · cases q
theorem M_X7_house (l : Launch) (G : AG) : am_M l G yX7_house cX7_house 3 (some .int) 7 156 (some 7) F_X7_house := am_M_of (f := fl_X7_house) (toR := fun x => (some (.inl x.1), x.2)) (P := P_X7_house) (Rr := am_rI) (own := RX7) (by decide) rfl (fun _ _ => rfl) s_X7_house am_wrI am_rkI pf_RX7 pk_RX7 ps_RX7 (List.forall_mem_cons.mpr ⟨cv_RX7_159 l G (by decide) (by decide), (List.forall_mem_cons.mpr ⟨cv_RX7_227 l G (by decide) (by decide), (List.forall_mem_cons.mpr ⟨cv_RX7_262 l G (by decide) (by decide), (fun _ q => by cases q)⟩)⟩)⟩) (fun _ q => by cases q) (fun _ q => by cases q) (b_X7_house l G)
def C_X7_isSheet : List AC := [(0, .iload_n 0, 1, []), (1, .iconst 0, 2, []), (2, .iconst 3, 3, []), (3, .invokestatic 42, 6, []), (6, .ireturn, 7, [])]
theorem ok_X7_isSheet : ∀ x ∈ C_X7_isSheet, am_ok cX7_isSheet 1 x = true := by decide +kernel
noncomputable def P_X7_isSheet : AP := (PF_RX7, PK_RX7, PS_RX7, [], [(42, 3, F_X7_in)], [])
noncomputable def f_X7_isSheet (a1 : Int32) (h : HP) : Option (Int32 × HP) := (f_X7_in a1 0 3 h).bind (fun q_1 => some (q_1.1 &&& 1, q_1.2))
noncomputable def fl_X7_isSheet : List AV → HP → Option (Int32 × HP) := fun as h => match as with
  | [.inl a1] => f_X7_isSheet a1 h
  | _ => none
noncomputable def F_X7_isSheet : AF := .inl fl_X7_isSheet
set_option maxRecDepth 20000 in
theorem b_X7_isSheet (l : Launch) (G : AG) : am_B l G 1 cX7_isSheet RX7 am_tb P_X7_isSheet am_rZ fl_X7_isSheet := by
  intro p e R s m args below meth c cells slots Q CX as h r q
  unfold fl_X7_isSheet at q
  split at q
  · exact am_run_ok CX ok_X7_isSheet (K := []) (am_K0 (Wp := am_W p l e R s m args below meth c cells slots G 1 (Q r))) 8 0 _ _ _ q
  · cases q
theorem s_X7_isSheet : ∀ as h x, fl_X7_isSheet as h = some x → (∀ k, (none : Option Nat) = some k → ∃ (j : Nat) (as' : List AV), as = .inr (.inr (.inl (k, j))) :: as') ∧ (am_l0 as).length ≤ 1 := by
  intro as h x q
  unfold fl_X7_isSheet at q
  split at q
  · exact ⟨fun k e => (by cases e), Nat.le_of_ble_eq_true rfl⟩
  · cases q
theorem M_X7_isSheet (l : Launch) (G : AG) : am_M l G yX7_isSheet cX7_isSheet 1 (some .boolean) 1 22 none F_X7_isSheet := am_M_of (f := fl_X7_isSheet) (toR := fun x => (some (.inl x.1), x.2)) (P := P_X7_isSheet) (Rr := am_rZ) (own := RX7) (by decide) rfl (fun _ _ => rfl) s_X7_isSheet am_wrI am_rkZ pf_RX7 pk_RX7 ps_RX7 (fun _ q => by cases q) (List.forall_mem_cons.mpr ⟨cs_RX7_42 l G (by decide) (by decide), (fun _ q => by cases q)⟩) (fun _ q => by cases q) (b_X7_isSheet l G)
def C_X7_narrow : List AC := [(0, .iload_n 0, 1, []), (1, .bipush 8, 3, []), (3, .if_icmp .ne 13, 6, [16]), (6, .lload_n 1, 7, []), (7, .bipush 56, 9, []), (9, .lshl, 10, []), (10, .bipush 56, 12, []), (12, .lshr, 13, []), (13, .goto 20, 16, [33]), (16, .iload_n 0, 17, []), (17, .bipush 16, 19, []), (19, .if_icmp .ne 13, 22, [32]), (22, .lload_n 1, 23, []), (23, .bipush 48, 25, []), (25, .lshl, 26, []), (26, .bipush 48, 28, []), (28, .lshr, 29, []), (29, .goto 4, 32, [33]), (32, .lload_n 1, 33, []), (33, .lreturn, 34, [])]
theorem ok_X7_narrow : ∀ x ∈ C_X7_narrow, am_ok cX7_narrow 3 x = true := by decide +kernel
noncomputable def P_X7_narrow : AP := (PF_RX7, PK_RX7, PS_RX7, [], [], [])
noncomputable def f_X7_narrow (a1 : Int32) (a2 : Int64) (h : HP) : Option (Int64 × HP) := if a1 = (8 : Int32) then (some ((a2 <<< (Int32.toInt64 56 &&& 63)) >>> (Int32.toInt64 56 &&& 63), h)) else (if a1 = (16 : Int32) then (some ((a2 <<< (Int32.toInt64 48 &&& 63)) >>> (Int32.toInt64 48 &&& 63), h)) else (some (a2, h)))
noncomputable def fl_X7_narrow : List AV → HP → Option (Int64 × HP) := fun as h => match as with
  | [.inl a1, .inr (.inl a2)] => f_X7_narrow a1 a2 h
  | _ => none
noncomputable def F_X7_narrow : AF := .inr (.inr (.inl fl_X7_narrow))
set_option maxRecDepth 20000 in
theorem b_X7_narrow (l : Launch) (G : AG) : am_B l G 3 cX7_narrow RX7 am_tb P_X7_narrow am_rJ fl_X7_narrow := by
  intro p e R s m args below meth c cells slots Q CX as h r q
  unfold fl_X7_narrow at q
  split at q
  · exact am_run_ok CX ok_X7_narrow (K := []) (am_K0 (Wp := am_W p l e R s m args below meth c cells slots G 3 (Q r))) 16 0 _ _ _ q
  · cases q
theorem s_X7_narrow : ∀ as h x, fl_X7_narrow as h = some x → (∀ k, (none : Option Nat) = some k → ∃ (j : Nat) (as' : List AV), as = .inr (.inr (.inl (k, j))) :: as') ∧ (am_l0 as).length ≤ 3 := by
  intro as h x q
  unfold fl_X7_narrow at q
  split at q
  · exact ⟨fun k e => (by cases e), Nat.le_of_ble_eq_true rfl⟩
  · cases q
theorem M_X7_narrow (l : Launch) (G : AG) : am_M l G yX7_narrow cX7_narrow 3 (some .long) 0 0 none F_X7_narrow := am_M_of (f := fl_X7_narrow) (toR := fun x => (some (.inr (.inl x.1)), x.2)) (P := P_X7_narrow) (Rr := am_rJ) (own := RX7) (by decide) rfl (fun _ _ => rfl) s_X7_narrow am_wrJ am_rkJ pf_RX7 pk_RX7 ps_RX7 (fun _ q => by cases q) (fun _ q => by cases q) (fun _ q => by cases q) (b_X7_narrow l G)
theorem cs_RX7_265 (l : Launch) (G : AG) {fr lo : Nat} (h1 : 1 + 1 ≤ fr) (h2 : 8 + (1 + 11) + 22 ≤ lo) : am_csOK l G RX7 fr lo (265, 1, F_X7_isSheet) := Or.inl ⟨yX7_isSheet, cX7_isSheet, 1, (some .boolean), 1, 22, M_X7_isSheet l G, ⟨(am_tb_mem (wd_24 _ (List.mem_of_getElem? (i := 25) rfl))), (am_tb_mem (wd_24 _ (List.mem_of_getElem? (i := 26) rfl))), (am_tb_mem (wd_1 _ (List.mem_of_getElem? (i := 26) rfl))), (am_tb_mem (wd_24 _ (List.mem_of_getElem? (i := 27) rfl)))⟩, ⟨by decide, by decide, by decide +kernel⟩, h1, h2⟩
def C_X7_sheet : List AC := [(0, .iload_n 1, 1, []), (1, .invokestatic 265, 4, []), (4, .ifCond .eq 25, 7, [29]), (7, .iload_n 2, 8, []), (8, .ifCond .eq 28, 11, [36]), (11, .iload_n 2, 12, []), (12, .bipush 8, 14, []), (14, .if_icmp .eq 22, 17, [36]), (17, .iload_n 2, 18, []), (18, .bipush 16, 20, []), (20, .if_icmp .eq 16, 23, [36]), (23, .iload_n 2, 24, []), (24, .bipush 64, 26, []), (26, .if_icmp .eq 10, 29, [36]), (29, .aload_n 0, 30, []), (30, .ldc 41, 32, []), (32, .invokevirtual 78, 35, []), (35, .ireturn, 36, []), (36, .iload_n 3, 37, []), (37, .ifCond .ge 11, 40, [48]), (40, .aload_n 0, 41, []), (41, .ldc_w 268, 44, []), (44, .invokevirtual 78, 47, []), (47, .ireturn, 48, []), (48, .iload_n 3, 49, []), (49, .bipush 40, 51, []), (51, .if_icmp .le 10, 54, [61]), (54, .aload_n 0, 55, []), (55, .ldc 41, 57, []), (57, .invokevirtual 78, 60, []), (60, .ireturn, 61, []), (61, .aload_n 0, 62, []), (62, .getfield 22, 65, []), (65, .iload_n 1, 66, []), (66, .iload_n 2, 67, []), (67, .iastore, 68, []), (68, .aload_n 0, 69, []), (69, .getfield 25, 72, []), (72, .iload_n 1, 73, []), (73, .iload_n 2, 74, []), (74, .ifCond .ne 7, 77, [81]), (77, .iconst 0, 78, []), (78, .goto 4, 81, [82]), (81, .iload_n 3, 82, []), (82, .iastore, 83, []), (83, .iconst 0, 84, []), (84, .istore 4, 86, []), (86, .iload 4, 88, []), (88, .bipush 40, 90, []), (90, .if_icmp .ge 22, 93, [112]), (93, .aload_n 0, 94, []), (94, .getfield 28, 97, []), (97, .bipush 40, 99, []), (99, .iload_n 1, 100, []), (100, .imul, 101, []), (101, .iload 4, 103, []), (103, .iadd, 104, []), (104, .lconst 0, 105, []), (105, .lastore, 106, []), (106, .iinc 4 1, 109, []), (109, .goto (-23), 112, [86]), (112, .aload_n 0, 113, []), (113, .getfield 25, 116, []), (116, .iload_n 1, 117, []), (117, .iaload, 118, []), (118, .ireturn, 119, [])]
theorem ok_X7_sheet : ∀ x ∈ C_X7_sheet, am_ok cX7_sheet 5 x = true := by decide +kernel
noncomputable def P_X7_sheet : AP := (PF_RX7, PK_RX7, PS_RX7, [(78, 2, F_X7_finds)], [(265, 1, F_X7_isSheet)], [])
noncomputable def g_X7_sheet_86  : Nat → Int32 → Int32 → HP → Option (Int32 × HP)
  | 0, _, _, _ => none
  | n + 1, a1, a2, h => if (40 : Int32) ≤ a2 then ((am_ix a1 4).bind (fun k_1 => some (h_rI h 13 5 k_1, h))) else ((am_ix ((40 * a1) + a2) 160).bind (fun k_2 => g_X7_sheet_86 n a1 (a2 + 1) (h_wJ h 14 0 k_2 0)))
def pk_X7_sheet_86 (k : Int32 → Int32 → HP → Option (Int32 × HP)) : List AV → List AV → HP → Option (Int32 × HP) := fun L st h => match L, st with
  | [.inr (.inr (.inl (7, 0))), .inl a1, .inl _, .inl _, .inl a2], [] => k a1 a2 h
  | _, _ => none
theorem pk_X7_sheet_86_ok {Wp : List AV → List AV → HP → Prop} {r : (Int32 × HP)} {k : Int32 → Int32 → HP → Option (Int32 × HP)} (hk : ∀ (a1 : Int32) (a2 : Int32) (w1 : Int32) (w2 : Int32) (h : HP), k a1 a2 h = some r → Wp [.inr (.inr (.inl (7, 0))), .inl a1, .inl w1, .inl w2, .inl a2] [] h) : ∀ L st h, pk_X7_sheet_86 k L st h = some r → Wp L st h := by
  intro L st h q
  unfold pk_X7_sheet_86 at q
  split at q
  · exact hk _ _ _ _ _ q
  · cases q
noncomputable def g_X7_sheet_36 (a1 : Int32) (a2 : Int32) (a3 : Int32) (h : HP) : Option (Int32 × HP) := if (0 : Int32) ≤ a3 then (if a3 ≤ (40 : Int32) then ((am_ix a1 4).bind (fun k_1 => if a2 = (0 : Int32) then ((am_ix a1 4).bind (fun k_3 => g_X7_sheet_86 am_fu a1 0 (h_wI (h_wI h 13 4 k_1 a2) 13 5 k_3 0))) else ((am_ix a1 4).bind (fun k_2 => g_X7_sheet_86 am_fu a1 0 (h_wI (h_wI h 13 4 k_1 a2) 13 5 k_2 a3))))) else ((f_X7_finds ((-1000000001)) h).bind (fun q_4 => some (q_4.1, q_4.2)))) else ((f_X7_finds ((-1000000007)) h).bind (fun q_5 => some (q_5.1, q_5.2)))
def pk_X7_sheet_36 (k : Int32 → Int32 → Int32 → HP → Option (Int32 × HP)) : List AV → List AV → HP → Option (Int32 × HP) := fun L st h => match L, st with
  | [.inr (.inr (.inl (7, 0))), .inl a1, .inl a2, .inl a3, .inr (.inr (.inr ()))], [] => k a1 a2 a3 h
  | _, _ => none
theorem pk_X7_sheet_36_ok {Wp : List AV → List AV → HP → Prop} {r : (Int32 × HP)} {k : Int32 → Int32 → Int32 → HP → Option (Int32 × HP)} (hk : ∀ (a1 : Int32) (a2 : Int32) (a3 : Int32) (h : HP), k a1 a2 a3 h = some r → Wp [.inr (.inr (.inl (7, 0))), .inl a1, .inl a2, .inl a3, .inr (.inr (.inr ()))] [] h) : ∀ L st h, pk_X7_sheet_36 k L st h = some r → Wp L st h := by
  intro L st h q
  unfold pk_X7_sheet_36 at q
  split at q
  · exact hk _ _ _ _ q
  · cases q
noncomputable def g_X7_sheet_29  (h : HP) : Option (Int32 × HP) := (f_X7_finds ((-1000000001)) h).bind (fun q_1 => some (q_1.1, q_1.2))
def pk_X7_sheet_29 (k : HP → Option (Int32 × HP)) : List AV → List AV → HP → Option (Int32 × HP) := fun L st h => match L, st with
  | [.inr (.inr (.inl (7, 0))), .inl _, .inl _, .inl _, .inr (.inr (.inr ()))], [] => k h
  | _, _ => none
theorem pk_X7_sheet_29_ok {Wp : List AV → List AV → HP → Prop} {r : (Int32 × HP)} {k : HP → Option (Int32 × HP)} (hk : ∀ (w1 : Int32) (w2 : Int32) (w3 : Int32) (h : HP), k h = some r → Wp [.inr (.inr (.inl (7, 0))), .inl w1, .inl w2, .inl w3, .inr (.inr (.inr ()))] [] h) : ∀ L st h, pk_X7_sheet_29 k L st h = some r → Wp L st h := by
  intro L st h q
  unfold pk_X7_sheet_29 at q
  split at q
  · exact hk _ _ _ _ q
  · cases q
noncomputable def f_X7_sheet (a1 : Int32) (a2 : Int32) (a3 : Int32) (h : HP) : Option (Int32 × HP) := (f_X7_isSheet a1 h).bind (fun q_1 => if q_1.1 = (0 : Int32) then (g_X7_sheet_29 q_1.2) else (if a2 = (0 : Int32) then (g_X7_sheet_36 a1 a2 a3 q_1.2) else (if a2 = (8 : Int32) then (g_X7_sheet_36 a1 a2 a3 q_1.2) else (if a2 = (16 : Int32) then (g_X7_sheet_36 a1 a2 a3 q_1.2) else (if a2 = (64 : Int32) then (g_X7_sheet_36 a1 a2 a3 q_1.2) else (g_X7_sheet_29 q_1.2))))))
noncomputable def fl_X7_sheet : List AV → HP → Option (Int32 × HP) := fun as h => match as with
  | [.inr (.inr (.inl (7, 0))), .inl a1, .inl a2, .inl a3] => f_X7_sheet a1 a2 a3 h
  | _ => none
noncomputable def F_X7_sheet : AF := .inl fl_X7_sheet
set_option maxRecDepth 20000 in
theorem w_X7_sheet_86 {p : Program} {l : Launch} {e : Env} {R : Room} {s : State} {m : MethodId} {args : Array Value} {below : List Frame} {meth : Method} {c : Code} {cells slots : Nat} {G : AG} {Q : (Int32 × HP) → State → Prop} (CX : am_X p l e R s m args below meth c cells slots G 5 cX7_sheet RX7 am_tb P_X7_sheet am_rI Q) {r : (Int32 × HP)} : ∀ (n : Nat) (a1 : Int32) (a2 : Int32) (w1 : Int32) (w2 : Int32) (h : HP), g_X7_sheet_86 n a1 a2 h = some r → am_W p l e R s m args below meth c cells slots G 5 (Q r) 86 [.inr (.inr (.inl (7, 0))), .inl a1, .inl w1, .inl w2, .inl a2] [] h := by
  intro n
  induction n with
  | zero =>
    intro a1 a2 w1 w2 h q
    have q9 : (none : Option (Int32 × HP)) = some r := q
    cases q9
  | succ n ih =>
    intro a1 a2 w1 w2 h q
    exact am_run_ok CX ok_X7_sheet (K := [(86, pk_X7_sheet_86 (g_X7_sheet_86 n))]) (am_K1 (Wp := am_W p l e R s m args below meth c cells slots G 5 (Q r)) (pk_X7_sheet_86_ok (Wp := am_W p l e R s m args below meth c cells slots G 5 (Q r) 86) ih) am_K0) 17 86 _ _ _ q
set_option maxRecDepth 20000 in
theorem w_X7_sheet_36 {p : Program} {l : Launch} {e : Env} {R : Room} {s : State} {m : MethodId} {args : Array Value} {below : List Frame} {meth : Method} {c : Code} {cells slots : Nat} {G : AG} {Q : (Int32 × HP) → State → Prop} (CX : am_X p l e R s m args below meth c cells slots G 5 cX7_sheet RX7 am_tb P_X7_sheet am_rI Q) {r : (Int32 × HP)} : ∀ (a1 : Int32) (a2 : Int32) (a3 : Int32) (h : HP), g_X7_sheet_36 a1 a2 a3 h = some r → am_W p l e R s m args below meth c cells slots G 5 (Q r) 36 [.inr (.inr (.inl (7, 0))), .inl a1, .inl a2, .inl a3, .inr (.inr (.inr ()))] [] h := by
  intro a1 a2 a3 h q
  exact am_run_ok CX ok_X7_sheet (K := [(86, pk_X7_sheet_86 (g_X7_sheet_86 am_fu))]) (am_K1 (Wp := am_W p l e R s m args below meth c cells slots G 5 (Q r)) (pk_X7_sheet_86_ok (Wp := am_W p l e R s m args below meth c cells slots G 5 (Q r) 86) (w_X7_sheet_86 CX am_fu)) am_K0) 23 36 _ _ _ q
set_option maxRecDepth 20000 in
theorem w_X7_sheet_29 {p : Program} {l : Launch} {e : Env} {R : Room} {s : State} {m : MethodId} {args : Array Value} {below : List Frame} {meth : Method} {c : Code} {cells slots : Nat} {G : AG} {Q : (Int32 × HP) → State → Prop} (CX : am_X p l e R s m args below meth c cells slots G 5 cX7_sheet RX7 am_tb P_X7_sheet am_rI Q) {r : (Int32 × HP)} : ∀ (w1 : Int32) (w2 : Int32) (w3 : Int32) (h : HP), g_X7_sheet_29 h = some r → am_W p l e R s m args below meth c cells slots G 5 (Q r) 29 [.inr (.inr (.inl (7, 0))), .inl w1, .inl w2, .inl w3, .inr (.inr (.inr ()))] [] h := by
  intro w1 w2 w3 h q
  exact am_run_ok CX ok_X7_sheet (K := []) (am_K0 (Wp := am_W p l e R s m args below meth c cells slots G 5 (Q r))) 7 29 _ _ _ q
set_option maxRecDepth 20000 in
theorem b_X7_sheet (l : Launch) (G : AG) : am_B l G 5 cX7_sheet RX7 am_tb P_X7_sheet am_rI fl_X7_sheet := by
  intro p e R s m args below meth c cells slots Q CX as h r q
  unfold fl_X7_sheet at q
  split at q
  · exact am_run_ok CX ok_X7_sheet (K := [(29, pk_X7_sheet_29 (g_X7_sheet_29)), (36, pk_X7_sheet_36 (g_X7_sheet_36))]) (am_K1 (Wp := am_W p l e R s m args below meth c cells slots G 5 (Q r)) (pk_X7_sheet_29_ok (Wp := am_W p l e R s m args below meth c cells slots G 5 (Q r) 29) (w_X7_sheet_29 CX)) (am_K1 (Wp := am_W p l e R s m args below meth c cells slots G 5 (Q r)) (pk_X7_sheet_36_ok (Wp := am_W p l e R s m args below meth c cells slots G 5 (Q r) 36) (w_X7_sheet_36 CX)) am_K0)) 17 0 _ _ _ q
  · cases q
theorem s_X7_sheet : ∀ as h x, fl_X7_sheet as h = some x → (∀ k, (some 7 : Option Nat) = some k → ∃ (j : Nat) (as' : List AV), as = .inr (.inr (.inl (k, j))) :: as') ∧ (am_l0 as).length ≤ 5 := by
  intro as h x q
  unfold fl_X7_sheet at q
  split at q
  · exact ⟨fun k e => by cases e; exact ⟨_, _, rfl⟩, Nat.le_of_ble_eq_true rfl⟩
  · cases q
theorem M_X7_sheet (l : Launch) (G : AG) : am_M l G yX7_sheet cX7_sheet 5 (some .int) 2 42 (some 7) F_X7_sheet := am_M_of (f := fl_X7_sheet) (toR := fun x => (some (.inl x.1), x.2)) (P := P_X7_sheet) (Rr := am_rI) (own := RX7) (by decide) rfl (fun _ _ => rfl) s_X7_sheet am_wrI am_rkI pf_RX7 pk_RX7 ps_RX7 (List.forall_mem_cons.mpr ⟨cv_RX7_78 l G (by decide) (by decide), (fun _ q => by cases q)⟩) (List.forall_mem_cons.mpr ⟨cs_RX7_265 l G (by decide) (by decide), (fun _ q => by cases q)⟩) (fun _ q => by cases q) (b_X7_sheet l G)
theorem cs_RX7_270 (l : Launch) (G : AG) {fr lo : Nat} (h1 : 0 + 1 ≤ fr) (h2 : 8 + (3 + 11) + 0 ≤ lo) : am_csOK l G RX7 fr lo (270, 2, F_X7_narrow) := Or.inl ⟨yX7_narrow, cX7_narrow, 3, (some .long), 0, 0, M_X7_narrow l G, ⟨(am_tb_mem (wd_24 _ (List.mem_of_getElem? (i := 34) rfl))), (am_tb_mem (wd_24 _ (List.mem_of_getElem? (i := 35) rfl))), (am_tb_mem (wd_1 _ (List.mem_of_getElem? (i := 26) rfl))), (am_tb_mem (wd_24 _ (List.mem_of_getElem? (i := 36) rfl)))⟩, ⟨by decide, by decide, by decide +kernel⟩, h1, h2⟩
def C_X7_write : List AC := [(0, .iload_n 1, 1, []), (1, .invokestatic 265, 4, []), (4, .ifCond .ne 11, 7, [15]), (7, .aload_n 0, 8, []), (8, .ldc 41, 10, []), (10, .invokevirtual 78, 13, []), (13, .i2l, 14, []), (14, .lreturn, 15, []), (15, .aload_n 0, 16, []), (16, .getfield 22, 19, []), (19, .iload_n 1, 20, []), (20, .iaload, 21, []), (21, .ifCond .ne 12, 24, [33]), (24, .aload_n 0, 25, []), (25, .ldc_w 269, 28, []), (28, .invokevirtual 78, 31, []), (31, .i2l, 32, []), (32, .lreturn, 33, []), (33, .iload_n 2, 34, []), (34, .iconst 0, 35, []), (35, .aload_n 0, 36, []), (36, .getfield 25, 39, []), (39, .iload_n 1, 40, []), (40, .iaload, 41, []), (41, .iconst 1, 42, []), (42, .isub, 43, []), (43, .invokestatic 42, 46, []), (46, .ifCond .ne 11, 49, [57]), (49, .aload_n 0, 50, []), (50, .ldc 41, 52, []), (52, .invokevirtual 78, 55, []), (55, .i2l, 56, []), (56, .lreturn, 57, []), (57, .aload_n 0, 58, []), (58, .getfield 28, 61, []), (61, .bipush 40, 63, []), (63, .iload_n 1, 64, []), (64, .imul, 65, []), (65, .iload_n 2, 66, []), (66, .iadd, 67, []), (67, .laload, 68, []), (68, .lstore 5, 70, []), (70, .aload_n 0, 71, []), (71, .getfield 28, 74, []), (74, .bipush 40, 76, []), (76, .iload_n 1, 77, []), (77, .imul, 78, []), (78, .iload_n 2, 79, []), (79, .iadd, 80, []), (80, .aload_n 0, 81, []), (81, .getfield 22, 84, []), (84, .iload_n 1, 85, []), (85, .iaload, 86, []), (86, .lload_n 3, 87, []), (87, .invokestatic 270, 90, []), (90, .lastore, 91, []), (91, .lload 5, 93, []), (93, .lreturn, 94, [])]
theorem ok_X7_write : ∀ x ∈ C_X7_write, am_ok cX7_write 7 x = true := by decide +kernel
noncomputable def P_X7_write : AP := (PF_RX7, PK_RX7, PS_RX7, [(78, 2, F_X7_finds)], [(42, 3, F_X7_in), (265, 1, F_X7_isSheet), (270, 2, F_X7_narrow)], [])
noncomputable def f_X7_write (a1 : Int32) (a2 : Int32) (a3 : Int64) (h : HP) : Option (Int64 × HP) := (f_X7_isSheet a1 h).bind (fun q_1 => if q_1.1 = (0 : Int32) then ((f_X7_finds ((-1000000001)) q_1.2).bind (fun q_11 => some (Int32.toInt64 q_11.1, q_11.2))) else ((am_ix a1 4).bind (fun k_2 => if h_rI q_1.2 13 4 k_2 = (0 : Int32) then ((f_X7_finds ((-1000000006)) q_1.2).bind (fun q_10 => some (Int32.toInt64 q_10.1, q_10.2))) else ((am_ix a1 4).bind (fun k_3 => (f_X7_in a2 0 ((h_rI q_1.2 13 5 k_3) - 1) q_1.2).bind (fun q_4 => if q_4.1 = (0 : Int32) then ((f_X7_finds ((-1000000001)) q_4.2).bind (fun q_9 => some (Int32.toInt64 q_9.1, q_9.2))) else ((am_ix ((40 * a1) + a2) 160).bind (fun k_5 => (am_ix a1 4).bind (fun k_6 => (f_X7_narrow (h_rI q_4.2 13 4 k_6) a3 q_4.2).bind (fun q_7 => (am_ix ((40 * a1) + a2) 160).bind (fun k_8 => some (h_rJ q_4.2 14 0 k_5, h_wJ q_7.2 14 0 k_8 q_7.1))))))))))))
noncomputable def fl_X7_write : List AV → HP → Option (Int64 × HP) := fun as h => match as with
  | [.inr (.inr (.inl (7, 0))), .inl a1, .inl a2, .inr (.inl a3)] => f_X7_write a1 a2 a3 h
  | _ => none
noncomputable def F_X7_write : AF := .inr (.inr (.inl fl_X7_write))
set_option maxRecDepth 20000 in
theorem b_X7_write (l : Launch) (G : AG) : am_B l G 7 cX7_write RX7 am_tb P_X7_write am_rJ fl_X7_write := by
  intro p e R s m args below meth c cells slots Q CX as h r q
  unfold fl_X7_write at q
  split at q
  · exact am_run_ok CX ok_X7_write (K := []) (am_K0 (Wp := am_W p l e R s m args below meth c cells slots G 7 (Q r))) 46 0 _ _ _ q
  · cases q
theorem s_X7_write : ∀ as h x, fl_X7_write as h = some x → (∀ k, (some 7 : Option Nat) = some k → ∃ (j : Nat) (as' : List AV), as = .inr (.inr (.inl (k, j))) :: as') ∧ (am_l0 as).length ≤ 7 := by
  intro as h x q
  unfold fl_X7_write at q
  split at q
  · exact ⟨fun k e => by cases e; exact ⟨_, _, rfl⟩, Nat.le_of_ble_eq_true rfl⟩
  · cases q
theorem M_X7_write (l : Launch) (G : AG) : am_M l G yX7_write cX7_write 7 (some .long) 2 42 (some 7) F_X7_write := am_M_of (f := fl_X7_write) (toR := fun x => (some (.inr (.inl x.1)), x.2)) (P := P_X7_write) (Rr := am_rJ) (own := RX7) (by decide) rfl (fun _ _ => rfl) s_X7_write am_wrJ am_rkJ pf_RX7 pk_RX7 ps_RX7 (List.forall_mem_cons.mpr ⟨cv_RX7_78 l G (by decide) (by decide), (fun _ q => by cases q)⟩) (List.forall_mem_cons.mpr ⟨cs_RX7_42 l G (by decide) (by decide), (List.forall_mem_cons.mpr ⟨cs_RX7_265 l G (by decide) (by decide), (List.forall_mem_cons.mpr ⟨cs_RX7_270 l G (by decide) (by decide), (fun _ q => by cases q)⟩)⟩)⟩) (fun _ q => by cases q) (b_X7_write l G)
def C_X7_isPart : List AC := [(0, .iload_n 2, 1, []), (1, .ifCond .lt 33, 4, [34]), (4, .iload_n 3, 5, []), (5, .ifCond .lt 29, 8, [34]), (8, .iload_n 3, 9, []), (9, .aload_n 0, 10, []), (10, .getfield 25, 13, []), (13, .iload_n 1, 14, []), (14, .iaload, 15, []), (15, .if_icmp .gt 19, 18, [34]), (18, .iload_n 2, 19, []), (19, .aload_n 0, 20, []), (20, .getfield 25, 23, []), (23, .iload_n 1, 24, []), (24, .iaload, 25, []), (25, .iload_n 3, 26, []), (26, .isub, 27, []), (27, .if_icmp .gt 7, 30, [34]), (30, .iconst 1, 31, []), (31, .goto 4, 34, [35]), (34, .iconst 0, 35, []), (35, .ireturn, 36, [])]
theorem ok_X7_isPart : ∀ x ∈ C_X7_isPart, am_ok cX7_isPart 4 x = true := by decide +kernel
noncomputable def P_X7_isPart : AP := (PF_RX7, PK_RX7, PS_RX7, [], [], [])
noncomputable def f_X7_isPart (a1 : Int32) (a2 : Int32) (a3 : Int32) (h : HP) : Option (Int32 × HP) := if a2 < (0 : Int32) then (some (0, h)) else (if a3 < (0 : Int32) then (some (0, h)) else ((am_ix a1 4).bind (fun k_1 => if h_rI h 13 5 k_1 < a3 then (some (0, h)) else ((am_ix a1 4).bind (fun k_2 => if (h_rI h 13 5 k_2) - a3 < a2 then (some (0, h)) else (some (1, h)))))))
noncomputable def fl_X7_isPart : List AV → HP → Option (Int32 × HP) := fun as h => match as with
  | [.inr (.inr (.inl (7, 0))), .inl a1, .inl a2, .inl a3] => f_X7_isPart a1 a2 a3 h
  | _ => none
noncomputable def F_X7_isPart : AF := .inl fl_X7_isPart
set_option maxRecDepth 20000 in
theorem b_X7_isPart (l : Launch) (G : AG) : am_B l G 4 cX7_isPart RX7 am_tb P_X7_isPart am_rZ fl_X7_isPart := by
  intro p e R s m args below meth c cells slots Q CX as h r q
  unfold fl_X7_isPart at q
  split at q
  · exact am_run_ok CX ok_X7_isPart (K := []) (am_K0 (Wp := am_W p l e R s m args below meth c cells slots G 4 (Q r))) 24 0 _ _ _ q
  · cases q
theorem s_X7_isPart : ∀ as h x, fl_X7_isPart as h = some x → (∀ k, (some 7 : Option Nat) = some k → ∃ (j : Nat) (as' : List AV), as = .inr (.inr (.inl (k, j))) :: as') ∧ (am_l0 as).length ≤ 4 := by
  intro as h x q
  unfold fl_X7_isPart at q
  split at q
  · exact ⟨fun k e => by cases e; exact ⟨_, _, rfl⟩, Nat.le_of_ble_eq_true rfl⟩
  · cases q
theorem M_X7_isPart (l : Launch) (G : AG) : am_M l G yX7_isPart cX7_isPart 4 (some .boolean) 0 0 (some 7) F_X7_isPart := am_M_of (f := fl_X7_isPart) (toR := fun x => (some (.inl x.1), x.2)) (P := P_X7_isPart) (Rr := am_rZ) (own := RX7) (by decide) rfl (fun _ _ => rfl) s_X7_isPart am_wrI am_rkZ pf_RX7 pk_RX7 ps_RX7 (fun _ q => by cases q) (fun _ q => by cases q) (fun _ q => by cases q) (b_X7_isPart l G)
theorem cv_RX7_274 (l : Launch) (G : AG) {fr lo : Nat} (h1 : 0 + 1 ≤ fr) (h2 : 8 + (4 + 11) + 0 ≤ lo) : am_cvOK l G RX7 fr lo (274, 4, F_X7_isPart) := ⟨yX7_isPart, cX7_isPart, 4, (some .boolean), 0, 0, 7, RX7, M_X7_isPart l G, ⟨(am_tb_mem (wd_25 _ (List.mem_of_getElem? (i := 1) rfl))), (am_tb_mem (wd_25 _ (List.mem_of_getElem? (i := 2) rfl))), (am_tb_mem (wd_1 _ (List.mem_of_getElem? (i := 15) rfl))), (am_tb_mem (wd_1 _ (List.mem_of_getElem? (i := 26) rfl))), (am_tb_mem (wd_25 _ (List.mem_of_getElem? (i := 3) rfl)))⟩, ⟨rfl, by decide, by decide, by decide +kernel⟩, Or.inl ⟨by decide, rfl⟩, h1, h2⟩
def C_X7_copy : List AC := [(0, .iload_n 1, 1, []), (1, .invokestatic 265, 4, []), (4, .ifCond .eq 10, 7, [14]), (7, .iload_n 3, 8, []), (8, .invokestatic 265, 11, []), (11, .ifCond .ne 10, 14, [21]), (14, .aload_n 0, 15, []), (15, .ldc 41, 17, []), (17, .invokevirtual 78, 20, []), (20, .ireturn, 21, []), (21, .aload_n 0, 22, []), (22, .getfield 22, 25, []), (25, .iload_n 1, 26, []), (26, .iaload, 27, []), (27, .ifCond .eq 12, 30, [39]), (30, .aload_n 0, 31, []), (31, .getfield 22, 34, []), (34, .iload_n 3, 35, []), (35, .iaload, 36, []), (36, .ifCond .ne 11, 39, [47]), (39, .aload_n 0, 40, []), (40, .ldc_w 269, 43, []), (43, .invokevirtual 78, 46, []), (46, .ireturn, 47, []), (47, .aload_n 0, 48, []), (48, .getfield 22, 51, []), (51, .iload_n 1, 52, []), (52, .iaload, 53, []), (53, .aload_n 0, 54, []), (54, .getfield 22, 57, []), (57, .iload_n 3, 58, []), (58, .iaload, 59, []), (59, .if_icmp .eq 10, 62, [69]), (62, .aload_n 0, 63, []), (63, .ldc 92, 65, []), (65, .invokevirtual 78, 68, []), (68, .ireturn, 69, []), (69, .aload_n 0, 70, []), (70, .iload_n 1, 71, []), (71, .iload_n 2, 72, []), (72, .iload 5, 74, []), (74, .invokevirtual 274, 77, []), (77, .ifCond .eq 15, 80, [92]), (80, .aload_n 0, 81, []), (81, .iload_n 3, 82, []), (82, .iload 4, 84, []), (84, .iload 5, 86, []), (86, .invokevirtual 274, 89, []), (89, .ifCond .ne 10, 92, [99]), (92, .aload_n 0, 93, []), (93, .ldc 41, 95, []), (95, .invokevirtual 78, 98, []), (98, .ireturn, 99, []), (99, .iconst 0, 100, []), (100, .istore 6, 102, []), (102, .iload 6, 104, []), (104, .iload 5, 106, []), (106, .if_icmp .ge 30, 109, [136]), (109, .aload_n 0, 110, []), (110, .getfield 32, 113, []), (113, .iload 6, 115, []), (115, .aload_n 0, 116, []), (116, .getfield 28, 119, []), (119, .bipush 40, 121, []), (121, .iload_n 1, 122, []), (122, .imul, 123, []), (123, .iload_n 2, 124, []), (124, .iadd, 125, []), (125, .iload 6, 127, []), (127, .iadd, 128, []), (128, .laload, 129, []), (129, .lastore, 130, []), (130, .iinc 6 1, 133, []), (133, .goto (-31), 136, [102]), (136, .iconst 0, 137, []), (137, .istore 6, 139, []), (139, .iload 6, 141, []), (141, .iload 5, 143, []), (143, .if_icmp .ge 31, 146, [174]), (146, .aload_n 0, 147, []), (147, .getfield 28, 150, []), (150, .bipush 40, 152, []), (152, .iload_n 3, 153, []), (153, .imul, 154, []), (154, .iload 4, 156, []), (156, .iadd, 157, []), (157, .iload 6, 159, []), (159, .iadd, 160, []), (160, .aload_n 0, 161, []), (161, .getfield 32, 164, []), (164, .iload 6, 166, []), (166, .laload, 167, []), (167, .lastore, 168, []), (168, .iinc 6 1, 171, []), (171, .goto (-32), 174, [139]), (174, .iload 5, 176, []), (176, .ireturn, 177, [])]
theorem ok_X7_copy : ∀ x ∈ C_X7_copy, am_ok cX7_copy 7 x = true := by decide +kernel
noncomputable def P_X7_copy : AP := (PF_RX7, PK_RX7, PS_RX7, [(78, 2, F_X7_finds), (274, 4, F_X7_isPart)], [(265, 1, F_X7_isSheet)], [])
noncomputable def g_X7_copy_139  : Nat → Int32 → Int32 → Int32 → Int32 → HP → Option (Int32 × HP)
  | 0, _, _, _, _, _ => none
  | n + 1, a1, a2, a3, a4, h => if a3 ≤ a4 then (some (a3, h)) else ((am_ix a4 40).bind (fun k_1 => (am_ix (((40 * a1) + a2) + a4) 160).bind (fun k_2 => g_X7_copy_139 n a1 a2 a3 (a4 + 1) (h_wJ h 14 0 k_2 (h_rJ h 14 1 k_1)))))
def pk_X7_copy_139 (k : Int32 → Int32 → Int32 → Int32 → HP → Option (Int32 × HP)) : List AV → List AV → HP → Option (Int32 × HP) := fun L st h => match L, st with
  | [.inr (.inr (.inl (7, 0))), .inl _, .inl _, .inl a1, .inl a2, .inl a3, .inl a4], [] => k a1 a2 a3 a4 h
  | _, _ => none
theorem pk_X7_copy_139_ok {Wp : List AV → List AV → HP → Prop} {r : (Int32 × HP)} {k : Int32 → Int32 → Int32 → Int32 → HP → Option (Int32 × HP)} (hk : ∀ (a1 : Int32) (a2 : Int32) (a3 : Int32) (a4 : Int32) (w1 : Int32) (w2 : Int32) (h : HP), k a1 a2 a3 a4 h = some r → Wp [.inr (.inr (.inl (7, 0))), .inl w1, .inl w2, .inl a1, .inl a2, .inl a3, .inl a4] [] h) : ∀ L st h, pk_X7_copy_139 k L st h = some r → Wp L st h := by
  intro L st h q
  unfold pk_X7_copy_139 at q
  split at q
  · exact hk _ _ _ _ _ _ _ q
  · cases q
noncomputable def g_X7_copy_102  : Nat → Int32 → Int32 → Int32 → Int32 → Int32 → Int32 → HP → Option (Int32 × HP)
  | 0, _, _, _, _, _, _, _ => none
  | n + 1, a1, a2, a3, a4, a5, a6, h => if a5 ≤ a6 then (g_X7_copy_139 am_fu a3 a4 a5 0 h) else ((am_ix (((40 * a1) + a2) + a6) 160).bind (fun k_1 => (am_ix a6 40).bind (fun k_2 => g_X7_copy_102 n a1 a2 a3 a4 a5 (a6 + 1) (h_wJ h 14 1 k_2 (h_rJ h 14 0 k_1)))))
def pk_X7_copy_102 (k : Int32 → Int32 → Int32 → Int32 → Int32 → Int32 → HP → Option (Int32 × HP)) : List AV → List AV → HP → Option (Int32 × HP) := fun L st h => match L, st with
  | [.inr (.inr (.inl (7, 0))), .inl a1, .inl a2, .inl a3, .inl a4, .inl a5, .inl a6], [] => k a1 a2 a3 a4 a5 a6 h
  | _, _ => none
theorem pk_X7_copy_102_ok {Wp : List AV → List AV → HP → Prop} {r : (Int32 × HP)} {k : Int32 → Int32 → Int32 → Int32 → Int32 → Int32 → HP → Option (Int32 × HP)} (hk : ∀ (a1 : Int32) (a2 : Int32) (a3 : Int32) (a4 : Int32) (a5 : Int32) (a6 : Int32) (h : HP), k a1 a2 a3 a4 a5 a6 h = some r → Wp [.inr (.inr (.inl (7, 0))), .inl a1, .inl a2, .inl a3, .inl a4, .inl a5, .inl a6] [] h) : ∀ L st h, pk_X7_copy_102 k L st h = some r → Wp L st h := by
  intro L st h q
  unfold pk_X7_copy_102 at q
  split at q
  · exact hk _ _ _ _ _ _ _ q
  · cases q
noncomputable def g_X7_copy_92  (h : HP) : Option (Int32 × HP) := (f_X7_finds ((-1000000001)) h).bind (fun q_1 => some (q_1.1, q_1.2))
def pk_X7_copy_92 (k : HP → Option (Int32 × HP)) : List AV → List AV → HP → Option (Int32 × HP) := fun L st h => match L, st with
  | [.inr (.inr (.inl (7, 0))), .inl _, .inl _, .inl _, .inl _, .inl _, .inr (.inr (.inr ()))], [] => k h
  | _, _ => none
theorem pk_X7_copy_92_ok {Wp : List AV → List AV → HP → Prop} {r : (Int32 × HP)} {k : HP → Option (Int32 × HP)} (hk : ∀ (w1 : Int32) (w2 : Int32) (w3 : Int32) (w4 : Int32) (w5 : Int32) (h : HP), k h = some r → Wp [.inr (.inr (.inl (7, 0))), .inl w1, .inl w2, .inl w3, .inl w4, .inl w5, .inr (.inr (.inr ()))] [] h) : ∀ L st h, pk_X7_copy_92 k L st h = some r → Wp L st h := by
  intro L st h q
  unfold pk_X7_copy_92 at q
  split at q
  · exact hk _ _ _ _ _ _ q
  · cases q
noncomputable def g_X7_copy_39  (h : HP) : Option (Int32 × HP) := (f_X7_finds ((-1000000006)) h).bind (fun q_1 => some (q_1.1, q_1.2))
def pk_X7_copy_39 (k : HP → Option (Int32 × HP)) : List AV → List AV → HP → Option (Int32 × HP) := fun L st h => match L, st with
  | [.inr (.inr (.inl (7, 0))), .inl _, .inl _, .inl _, .inl _, .inl _, .inr (.inr (.inr ()))], [] => k h
  | _, _ => none
theorem pk_X7_copy_39_ok {Wp : List AV → List AV → HP → Prop} {r : (Int32 × HP)} {k : HP → Option (Int32 × HP)} (hk : ∀ (w1 : Int32) (w2 : Int32) (w3 : Int32) (w4 : Int32) (w5 : Int32) (h : HP), k h = some r → Wp [.inr (.inr (.inl (7, 0))), .inl w1, .inl w2, .inl w3, .inl w4, .inl w5, .inr (.inr (.inr ()))] [] h) : ∀ L st h, pk_X7_copy_39 k L st h = some r → Wp L st h := by
  intro L st h q
  unfold pk_X7_copy_39 at q
  split at q
  · exact hk _ _ _ _ _ _ q
  · cases q
noncomputable def g_X7_copy_14  (h : HP) : Option (Int32 × HP) := (f_X7_finds ((-1000000001)) h).bind (fun q_1 => some (q_1.1, q_1.2))
def pk_X7_copy_14 (k : HP → Option (Int32 × HP)) : List AV → List AV → HP → Option (Int32 × HP) := fun L st h => match L, st with
  | [.inr (.inr (.inl (7, 0))), .inl _, .inl _, .inl _, .inl _, .inl _, .inr (.inr (.inr ()))], [] => k h
  | _, _ => none
theorem pk_X7_copy_14_ok {Wp : List AV → List AV → HP → Prop} {r : (Int32 × HP)} {k : HP → Option (Int32 × HP)} (hk : ∀ (w1 : Int32) (w2 : Int32) (w3 : Int32) (w4 : Int32) (w5 : Int32) (h : HP), k h = some r → Wp [.inr (.inr (.inl (7, 0))), .inl w1, .inl w2, .inl w3, .inl w4, .inl w5, .inr (.inr (.inr ()))] [] h) : ∀ L st h, pk_X7_copy_14 k L st h = some r → Wp L st h := by
  intro L st h q
  unfold pk_X7_copy_14 at q
  split at q
  · exact hk _ _ _ _ _ _ q
  · cases q
noncomputable def f_X7_copy (a1 : Int32) (a2 : Int32) (a3 : Int32) (a4 : Int32) (a5 : Int32) (h : HP) : Option (Int32 × HP) := (f_X7_isSheet a1 h).bind (fun q_1 => if q_1.1 = (0 : Int32) then (g_X7_copy_14 q_1.2) else ((f_X7_isSheet a3 q_1.2).bind (fun q_2 => if q_2.1 = (0 : Int32) then (g_X7_copy_14 q_2.2) else ((am_ix a1 4).bind (fun k_3 => if h_rI q_2.2 13 4 k_3 = (0 : Int32) then (g_X7_copy_39 q_2.2) else ((am_ix a3 4).bind (fun k_4 => if h_rI q_2.2 13 4 k_4 = (0 : Int32) then (g_X7_copy_39 q_2.2) else ((am_ix a1 4).bind (fun k_5 => (am_ix a3 4).bind (fun k_6 => if h_rI q_2.2 13 4 k_5 = h_rI q_2.2 13 4 k_6 then ((f_X7_isPart a1 a2 a5 q_2.2).bind (fun q_7 => if q_7.1 = (0 : Int32) then (g_X7_copy_92 q_7.2) else ((f_X7_isPart a3 a4 a5 q_7.2).bind (fun q_8 => if q_8.1 = (0 : Int32) then (g_X7_copy_92 q_8.2) else (g_X7_copy_102 am_fu a1 a2 a3 a4 a5 0 q_8.2))))) else ((f_X7_finds ((-1000000003)) q_2.2).bind (fun q_9 => some (q_9.1, q_9.2)))))))))))))
noncomputable def fl_X7_copy : List AV → HP → Option (Int32 × HP) := fun as h => match as with
  | [.inr (.inr (.inl (7, 0))), .inl a1, .inl a2, .inl a3, .inl a4, .inl a5] => f_X7_copy a1 a2 a3 a4 a5 h
  | _ => none
noncomputable def F_X7_copy : AF := .inl fl_X7_copy
set_option maxRecDepth 20000 in
theorem w_X7_copy_139 {p : Program} {l : Launch} {e : Env} {R : Room} {s : State} {m : MethodId} {args : Array Value} {below : List Frame} {meth : Method} {c : Code} {cells slots : Nat} {G : AG} {Q : (Int32 × HP) → State → Prop} (CX : am_X p l e R s m args below meth c cells slots G 7 cX7_copy RX7 am_tb P_X7_copy am_rI Q) {r : (Int32 × HP)} : ∀ (n : Nat) (a1 : Int32) (a2 : Int32) (a3 : Int32) (a4 : Int32) (w1 : Int32) (w2 : Int32) (h : HP), g_X7_copy_139 n a1 a2 a3 a4 h = some r → am_W p l e R s m args below meth c cells slots G 7 (Q r) 139 [.inr (.inr (.inl (7, 0))), .inl w1, .inl w2, .inl a1, .inl a2, .inl a3, .inl a4] [] h := by
  intro n
  induction n with
  | zero =>
    intro a1 a2 a3 a4 w1 w2 h q
    have q9 : (none : Option (Int32 × HP)) = some r := q
    cases q9
  | succ n ih =>
    intro a1 a2 a3 a4 w1 w2 h q
    exact am_run_ok CX ok_X7_copy (K := [(139, pk_X7_copy_139 (g_X7_copy_139 n))]) (am_K1 (Wp := am_W p l e R s m args below meth c cells slots G 7 (Q r)) (pk_X7_copy_139_ok (Wp := am_W p l e R s m args below meth c cells slots G 7 (Q r) 139) ih) am_K0) 22 139 _ _ _ q
set_option maxRecDepth 20000 in
theorem w_X7_copy_102 {p : Program} {l : Launch} {e : Env} {R : Room} {s : State} {m : MethodId} {args : Array Value} {below : List Frame} {meth : Method} {c : Code} {cells slots : Nat} {G : AG} {Q : (Int32 × HP) → State → Prop} (CX : am_X p l e R s m args below meth c cells slots G 7 cX7_copy RX7 am_tb P_X7_copy am_rI Q) {r : (Int32 × HP)} : ∀ (n : Nat) (a1 : Int32) (a2 : Int32) (a3 : Int32) (a4 : Int32) (a5 : Int32) (a6 : Int32) (h : HP), g_X7_copy_102 n a1 a2 a3 a4 a5 a6 h = some r → am_W p l e R s m args below meth c cells slots G 7 (Q r) 102 [.inr (.inr (.inl (7, 0))), .inl a1, .inl a2, .inl a3, .inl a4, .inl a5, .inl a6] [] h := by
  intro n
  induction n with
  | zero =>
    intro a1 a2 a3 a4 a5 a6 h q
    have q9 : (none : Option (Int32 × HP)) = some r := q
    cases q9
  | succ n ih =>
    intro a1 a2 a3 a4 a5 a6 h q
    exact am_run_ok CX ok_X7_copy (K := [(139, pk_X7_copy_139 (g_X7_copy_139 am_fu)), (102, pk_X7_copy_102 (g_X7_copy_102 n))]) (am_K1 (Wp := am_W p l e R s m args below meth c cells slots G 7 (Q r)) (pk_X7_copy_139_ok (Wp := am_W p l e R s m args below meth c cells slots G 7 (Q r) 139) (w_X7_copy_139 CX am_fu)) (am_K1 (Wp := am_W p l e R s m args below meth c cells slots G 7 (Q r)) (pk_X7_copy_102_ok (Wp := am_W p l e R s m args below meth c cells slots G 7 (Q r) 102) ih) am_K0)) 22 102 _ _ _ q
set_option maxRecDepth 20000 in
theorem w_X7_copy_92 {p : Program} {l : Launch} {e : Env} {R : Room} {s : State} {m : MethodId} {args : Array Value} {below : List Frame} {meth : Method} {c : Code} {cells slots : Nat} {G : AG} {Q : (Int32 × HP) → State → Prop} (CX : am_X p l e R s m args below meth c cells slots G 7 cX7_copy RX7 am_tb P_X7_copy am_rI Q) {r : (Int32 × HP)} : ∀ (w1 : Int32) (w2 : Int32) (w3 : Int32) (w4 : Int32) (w5 : Int32) (h : HP), g_X7_copy_92 h = some r → am_W p l e R s m args below meth c cells slots G 7 (Q r) 92 [.inr (.inr (.inl (7, 0))), .inl w1, .inl w2, .inl w3, .inl w4, .inl w5, .inr (.inr (.inr ()))] [] h := by
  intro w1 w2 w3 w4 w5 h q
  exact am_run_ok CX ok_X7_copy (K := []) (am_K0 (Wp := am_W p l e R s m args below meth c cells slots G 7 (Q r))) 7 92 _ _ _ q
set_option maxRecDepth 20000 in
theorem w_X7_copy_39 {p : Program} {l : Launch} {e : Env} {R : Room} {s : State} {m : MethodId} {args : Array Value} {below : List Frame} {meth : Method} {c : Code} {cells slots : Nat} {G : AG} {Q : (Int32 × HP) → State → Prop} (CX : am_X p l e R s m args below meth c cells slots G 7 cX7_copy RX7 am_tb P_X7_copy am_rI Q) {r : (Int32 × HP)} : ∀ (w1 : Int32) (w2 : Int32) (w3 : Int32) (w4 : Int32) (w5 : Int32) (h : HP), g_X7_copy_39 h = some r → am_W p l e R s m args below meth c cells slots G 7 (Q r) 39 [.inr (.inr (.inl (7, 0))), .inl w1, .inl w2, .inl w3, .inl w4, .inl w5, .inr (.inr (.inr ()))] [] h := by
  intro w1 w2 w3 w4 w5 h q
  exact am_run_ok CX ok_X7_copy (K := []) (am_K0 (Wp := am_W p l e R s m args below meth c cells slots G 7 (Q r))) 7 39 _ _ _ q
set_option maxRecDepth 20000 in
theorem w_X7_copy_14 {p : Program} {l : Launch} {e : Env} {R : Room} {s : State} {m : MethodId} {args : Array Value} {below : List Frame} {meth : Method} {c : Code} {cells slots : Nat} {G : AG} {Q : (Int32 × HP) → State → Prop} (CX : am_X p l e R s m args below meth c cells slots G 7 cX7_copy RX7 am_tb P_X7_copy am_rI Q) {r : (Int32 × HP)} : ∀ (w1 : Int32) (w2 : Int32) (w3 : Int32) (w4 : Int32) (w5 : Int32) (h : HP), g_X7_copy_14 h = some r → am_W p l e R s m args below meth c cells slots G 7 (Q r) 14 [.inr (.inr (.inl (7, 0))), .inl w1, .inl w2, .inl w3, .inl w4, .inl w5, .inr (.inr (.inr ()))] [] h := by
  intro w1 w2 w3 w4 w5 h q
  exact am_run_ok CX ok_X7_copy (K := []) (am_K0 (Wp := am_W p l e R s m args below meth c cells slots G 7 (Q r))) 7 14 _ _ _ q
set_option maxRecDepth 20000 in
theorem b_X7_copy (l : Launch) (G : AG) : am_B l G 7 cX7_copy RX7 am_tb P_X7_copy am_rI fl_X7_copy := by
  intro p e R s m args below meth c cells slots Q CX as h r q
  unfold fl_X7_copy at q
  split at q
  · exact am_run_ok CX ok_X7_copy (K := [(14, pk_X7_copy_14 (g_X7_copy_14)), (39, pk_X7_copy_39 (g_X7_copy_39)), (92, pk_X7_copy_92 (g_X7_copy_92)), (102, pk_X7_copy_102 (g_X7_copy_102 am_fu))]) (am_K1 (Wp := am_W p l e R s m args below meth c cells slots G 7 (Q r)) (pk_X7_copy_14_ok (Wp := am_W p l e R s m args below meth c cells slots G 7 (Q r) 14) (w_X7_copy_14 CX)) (am_K1 (Wp := am_W p l e R s m args below meth c cells slots G 7 (Q r)) (pk_X7_copy_39_ok (Wp := am_W p l e R s m args below meth c cells slots G 7 (Q r) 39) (w_X7_copy_39 CX)) (am_K1 (Wp := am_W p l e R s m args below meth c cells slots G 7 (Q r)) (pk_X7_copy_92_ok (Wp := am_W p l e R s m args below meth c cells slots G 7 (Q r) 92) (w_X7_copy_92 CX)) (am_K1 (Wp := am_W p l e R s m args below meth c cells slots G 7 (Q r)) (pk_X7_copy_102_ok (Wp := am_W p l e R s m args below meth c cells slots G 7 (Q r) 102) (w_X7_copy_102 CX am_fu)) am_K0)))) 42 0 _ _ _ q
  · cases q
theorem s_X7_copy : ∀ as h x, fl_X7_copy as h = some x → (∀ k, (some 7 : Option Nat) = some k → ∃ (j : Nat) (as' : List AV), as = .inr (.inr (.inl (k, j))) :: as') ∧ (am_l0 as).length ≤ 7 := by
  intro as h x q
  unfold fl_X7_copy at q
  split at q
  · exact ⟨fun k e => by cases e; exact ⟨_, _, rfl⟩, Nat.le_of_ble_eq_true rfl⟩
  · cases q
theorem M_X7_copy (l : Launch) (G : AG) : am_M l G yX7_copy cX7_copy 7 (some .int) 2 42 (some 7) F_X7_copy := am_M_of (f := fl_X7_copy) (toR := fun x => (some (.inl x.1), x.2)) (P := P_X7_copy) (Rr := am_rI) (own := RX7) (by decide) rfl (fun _ _ => rfl) s_X7_copy am_wrI am_rkI pf_RX7 pk_RX7 ps_RX7 (List.forall_mem_cons.mpr ⟨cv_RX7_78 l G (by decide) (by decide), (List.forall_mem_cons.mpr ⟨cv_RX7_274 l G (by decide) (by decide), (fun _ q => by cases q)⟩)⟩) (List.forall_mem_cons.mpr ⟨cs_RX7_265 l G (by decide) (by decide), (fun _ q => by cases q)⟩) (fun _ q => by cases q) (b_X7_copy l G)
def C_X7_badSheet : List AC := [(0, .iload_n 1, 1, []), (1, .invokestatic 265, 4, []), (4, .ifCond .ne 8, 7, [12]), (7, .ldc 41, 9, []), (9, .goto 19, 12, [28]), (12, .aload_n 0, 13, []), (13, .getfield 22, 16, []), (16, .iload_n 1, 17, []), (17, .iaload, 18, []), (18, .ifCond .ne 9, 21, [27]), (21, .ldc_w 269, 24, []), (24, .goto 4, 27, [28]), (27, .iconst 0, 28, []), (28, .ireturn, 29, [])]
theorem ok_X7_badSheet : ∀ x ∈ C_X7_badSheet, am_ok cX7_badSheet 2 x = true := by decide +kernel
noncomputable def P_X7_badSheet : AP := (PF_RX7, PK_RX7, PS_RX7, [], [(265, 1, F_X7_isSheet)], [])
noncomputable def f_X7_badSheet (a1 : Int32) (h : HP) : Option (Int32 × HP) := (f_X7_isSheet a1 h).bind (fun q_1 => if q_1.1 = (0 : Int32) then (some ((-1000000001), q_1.2)) else ((am_ix a1 4).bind (fun k_2 => if h_rI q_1.2 13 4 k_2 = (0 : Int32) then (some ((-1000000006), q_1.2)) else (some (0, q_1.2)))))
noncomputable def fl_X7_badSheet : List AV → HP → Option (Int32 × HP) := fun as h => match as with
  | [.inr (.inr (.inl (7, 0))), .inl a1] => f_X7_badSheet a1 h
  | _ => none
noncomputable def F_X7_badSheet : AF := .inl fl_X7_badSheet
set_option maxRecDepth 20000 in
theorem b_X7_badSheet (l : Launch) (G : AG) : am_B l G 2 cX7_badSheet RX7 am_tb P_X7_badSheet am_rI fl_X7_badSheet := by
  intro p e R s m args below meth c cells slots Q CX as h r q
  unfold fl_X7_badSheet at q
  split at q
  · exact am_run_ok CX ok_X7_badSheet (K := []) (am_K0 (Wp := am_W p l e R s m args below meth c cells slots G 2 (Q r))) 14 0 _ _ _ q
  · cases q
theorem s_X7_badSheet : ∀ as h x, fl_X7_badSheet as h = some x → (∀ k, (some 7 : Option Nat) = some k → ∃ (j : Nat) (as' : List AV), as = .inr (.inr (.inl (k, j))) :: as') ∧ (am_l0 as).length ≤ 2 := by
  intro as h x q
  unfold fl_X7_badSheet at q
  split at q
  · exact ⟨fun k e => by cases e; exact ⟨_, _, rfl⟩, Nat.le_of_ble_eq_true rfl⟩
  · cases q
theorem M_X7_badSheet (l : Launch) (G : AG) : am_M l G yX7_badSheet cX7_badSheet 2 (some .int) 2 42 (some 7) F_X7_badSheet := am_M_of (f := fl_X7_badSheet) (toR := fun x => (some (.inl x.1), x.2)) (P := P_X7_badSheet) (Rr := am_rI) (own := RX7) (by decide) rfl (fun _ _ => rfl) s_X7_badSheet am_wrI am_rkI pf_RX7 pk_RX7 ps_RX7 (fun _ q => by cases q) (List.forall_mem_cons.mpr ⟨cs_RX7_265 l G (by decide) (by decide), (fun _ q => by cases q)⟩) (fun _ q => by cases q) (b_X7_badSheet l G)
theorem cv_RX7_277 (l : Launch) (G : AG) {fr lo : Nat} (h1 : 2 + 1 ≤ fr) (h2 : 8 + (2 + 11) + 42 ≤ lo) : am_cvOK l G RX7 fr lo (277, 2, F_X7_badSheet) := ⟨yX7_badSheet, cX7_badSheet, 2, (some .int), 2, 42, 7, RX7, M_X7_badSheet l G, ⟨(am_tb_mem (wd_25 _ (List.mem_of_getElem? (i := 8) rfl))), (am_tb_mem (wd_25 _ (List.mem_of_getElem? (i := 9) rfl))), (am_tb_mem (wd_1 _ (List.mem_of_getElem? (i := 16) rfl))), (am_tb_mem (wd_1 _ (List.mem_of_getElem? (i := 26) rfl))), (am_tb_mem (wd_25 _ (List.mem_of_getElem? (i := 10) rfl)))⟩, ⟨rfl, by decide, by decide, by decide +kernel⟩, Or.inl ⟨by decide, rfl⟩, h1, h2⟩
def C_X7_lays : List AC := [(0, .aload_n 0, 1, []), (1, .iload_n 1, 2, []), (2, .invokevirtual 277, 5, []), (5, .istore_n 2, 6, []), (6, .iload_n 2, 7, []), (7, .ifCond .eq 9, 10, [16]), (10, .aload_n 0, 11, []), (11, .iload_n 2, 12, []), (12, .invokevirtual 78, 15, []), (15, .ireturn, 16, []), (16, .iconst 0, 17, []), (17, .istore_n 3, 18, []), (18, .iconst 0, 19, []), (19, .istore 4, 21, []), (21, .iload 4, 23, []), (23, .aload_n 0, 24, []), (24, .getfield 25, 27, []), (27, .iload_n 1, 28, []), (28, .iaload, 29, []), (29, .if_icmp .ge 63, 32, [92]), (32, .iload 4, 34, []), (34, .aload_n 0, 35, []), (35, .getfield 7, 38, []), (38, .iconst 2, 39, []), (39, .iaload, 40, []), (40, .if_icmp .ge 52, 43, [92]), (43, .aload_n 0, 44, []), (44, .getfield 28, 47, []), (47, .bipush 40, 49, []), (49, .iload_n 1, 50, []), (50, .imul, 51, []), (51, .iload 4, 53, []), (53, .iadd, 54, []), (54, .laload, 55, []), (55, .lstore 5, 57, []), (57, .lload 5, 59, []), (59, .lconst 0, 60, []), (60, .lcmp, 61, []), (61, .ifCond .lt 25, 64, [86]), (64, .lload 5, 66, []), (66, .ldc2_w 280, 69, []), (69, .lcmp, 70, []), (70, .ifCond .gt 16, 73, [86]), (73, .aload_n 0, 74, []), (74, .iload 4, 76, []), (76, .iconst 3, 77, []), (77, .lload 5, 79, []), (79, .l2i, 80, []), (80, .invokevirtual 68, 83, []), (83, .iinc 3 1, 86, []), (86, .iinc 4 1, 89, []), (89, .goto (-68), 92, [21]), (92, .iload_n 3, 93, []), (93, .ireturn, 94, [])]
theorem ok_X7_lays : ∀ x ∈ C_X7_lays, am_ok cX7_lays 7 x = true := by decide +kernel
noncomputable def P_X7_lays : AP := (PF_RX7, PK_RX7, PS_RX7, [(68, 4, F_X7_puts), (78, 2, F_X7_finds), (277, 2, F_X7_badSheet)], [], [])
noncomputable def g_X7_lays_21  : Nat → Int32 → Int32 → Int32 → HP → Option (Int32 × HP)
  | 0, _, _, _, _ => none
  | n + 1, a1, a2, a3, h => (am_ix a1 4).bind (fun k_1 => if h_rI h 13 5 k_1 ≤ a3 then (some (a2, h)) else ((am_ix (2 : Int32) 64).bind (fun k_2 => if h_rI h 13 0 k_2 ≤ a3 then (some (a2, h)) else ((am_ix ((40 * a1) + a3) 160).bind (fun k_3 => if lg_cmp (h_rJ h 14 0 k_3) 0 < (0 : Int32) then (g_X7_lays_21 n a1 a2 (a3 + 1) h) else (if (0 : Int32) < lg_cmp (h_rJ h 14 0 k_3) 99 then (g_X7_lays_21 n a1 a2 (a3 + 1) h) else ((f_X7_puts a3 3 (Int64.toInt32 (h_rJ h 14 0 k_3)) h).bind (fun q_4 => g_X7_lays_21 n a1 (a2 + 1) (a3 + 1) q_4))))))))
def pk_X7_lays_21 (k : Int32 → Int32 → Int32 → HP → Option (Int32 × HP)) : List AV → List AV → HP → Option (Int32 × HP) := fun L st h => match L, st with
  | [.inr (.inr (.inl (7, 0))), .inl a1, .inl _, .inl a2, .inl a3, _, .inr (.inr (.inr ()))], [] => k a1 a2 a3 h
  | _, _ => none
theorem pk_X7_lays_21_ok {Wp : List AV → List AV → HP → Prop} {r : (Int32 × HP)} {k : Int32 → Int32 → Int32 → HP → Option (Int32 × HP)} (hk : ∀ (a1 : Int32) (a2 : Int32) (a3 : Int32) (w1 : Int32) (w2 : AV) (h : HP), k a1 a2 a3 h = some r → Wp [.inr (.inr (.inl (7, 0))), .inl a1, .inl w1, .inl a2, .inl a3, w2, .inr (.inr (.inr ()))] [] h) : ∀ L st h, pk_X7_lays_21 k L st h = some r → Wp L st h := by
  intro L st h q
  unfold pk_X7_lays_21 at q
  split at q
  · exact hk _ _ _ _ _ _ q
  · cases q
noncomputable def f_X7_lays (a1 : Int32) (h : HP) : Option (Int32 × HP) := (f_X7_badSheet a1 h).bind (fun q_1 => if q_1.1 = (0 : Int32) then (g_X7_lays_21 am_fu a1 0 0 q_1.2) else ((f_X7_finds q_1.1 q_1.2).bind (fun q_2 => some (q_2.1, q_2.2))))
noncomputable def fl_X7_lays : List AV → HP → Option (Int32 × HP) := fun as h => match as with
  | [.inr (.inr (.inl (7, 0))), .inl a1] => f_X7_lays a1 h
  | _ => none
noncomputable def F_X7_lays : AF := .inl fl_X7_lays
set_option maxRecDepth 20000 in
theorem w_X7_lays_21 {p : Program} {l : Launch} {e : Env} {R : Room} {s : State} {m : MethodId} {args : Array Value} {below : List Frame} {meth : Method} {c : Code} {cells slots : Nat} {G : AG} {Q : (Int32 × HP) → State → Prop} (CX : am_X p l e R s m args below meth c cells slots G 7 cX7_lays RX7 am_tb P_X7_lays am_rI Q) {r : (Int32 × HP)} : ∀ (n : Nat) (a1 : Int32) (a2 : Int32) (a3 : Int32) (w1 : Int32) (w2 : AV) (h : HP), g_X7_lays_21 n a1 a2 a3 h = some r → am_W p l e R s m args below meth c cells slots G 7 (Q r) 21 [.inr (.inr (.inl (7, 0))), .inl a1, .inl w1, .inl a2, .inl a3, w2, .inr (.inr (.inr ()))] [] h := by
  intro n
  induction n with
  | zero =>
    intro a1 a2 a3 w1 w2 h q
    have q9 : (none : Option (Int32 × HP)) = some r := q
    cases q9
  | succ n ih =>
    intro a1 a2 a3 w1 w2 h q
    exact am_run_ok CX ok_X7_lays (K := [(21, pk_X7_lays_21 (g_X7_lays_21 n))]) (am_K1 (Wp := am_W p l e R s m args below meth c cells slots G 7 (Q r)) (pk_X7_lays_21_ok (Wp := am_W p l e R s m args below meth c cells slots G 7 (Q r) 21) ih) am_K0) 41 21 _ _ _ q
set_option maxRecDepth 20000 in
theorem b_X7_lays (l : Launch) (G : AG) : am_B l G 7 cX7_lays RX7 am_tb P_X7_lays am_rI fl_X7_lays := by
  intro p e R s m args below meth c cells slots Q CX as h r q
  unfold fl_X7_lays at q
  split at q
  · exact am_run_ok CX ok_X7_lays (K := [(21, pk_X7_lays_21 (g_X7_lays_21 am_fu))]) (am_K1 (Wp := am_W p l e R s m args below meth c cells slots G 7 (Q r)) (pk_X7_lays_21_ok (Wp := am_W p l e R s m args below meth c cells slots G 7 (Q r) 21) (w_X7_lays_21 CX am_fu)) am_K0) 13 0 _ _ _ q
  · cases q
theorem s_X7_lays : ∀ as h x, fl_X7_lays as h = some x → (∀ k, (some 7 : Option Nat) = some k → ∃ (j : Nat) (as' : List AV), as = .inr (.inr (.inl (k, j))) :: as') ∧ (am_l0 as).length ≤ 7 := by
  intro as h x q
  unfold fl_X7_lays at q
  split at q
  · exact ⟨fun k e => by cases e; exact ⟨_, _, rfl⟩, Nat.le_of_ble_eq_true rfl⟩
  · cases q
theorem M_X7_lays (l : Launch) (G : AG) : am_M l G yX7_lays cX7_lays 7 (some .int) 3 63 (some 7) F_X7_lays := am_M_of (f := fl_X7_lays) (toR := fun x => (some (.inl x.1), x.2)) (P := P_X7_lays) (Rr := am_rI) (own := RX7) (by decide) rfl (fun _ _ => rfl) s_X7_lays am_wrI am_rkI pf_RX7 pk_RX7 ps_RX7 (List.forall_mem_cons.mpr ⟨cv_RX7_68 l G (by decide) (by decide), (List.forall_mem_cons.mpr ⟨cv_RX7_78 l G (by decide) (by decide), (List.forall_mem_cons.mpr ⟨cv_RX7_277 l G (by decide) (by decide), (fun _ q => by cases q)⟩)⟩)⟩) (fun _ q => by cases q) (fun _ q => by cases q) (b_X7_lays l G)
def C_X7_book : List AC := [(0, .aload_n 0, 1, []), (1, .iload_n 1, 2, []), (2, .invokevirtual 277, 5, []), (5, .istore_n 3, 6, []), (6, .iload_n 3, 7, []), (7, .ifCond .eq 9, 10, [16]), (10, .aload_n 0, 11, []), (11, .iload_n 3, 12, []), (12, .invokevirtual 78, 15, []), (15, .ireturn, 16, []), (16, .aload_n 0, 17, []), (17, .iload_n 2, 18, []), (18, .invokevirtual 111, 21, []), (21, .ifCond .ne 10, 24, [31]), (24, .aload_n 0, 25, []), (25, .ldc 41, 27, []), (27, .invokevirtual 78, 30, []), (30, .ireturn, 31, []), (31, .aload_n 0, 32, []), (32, .iconst 1, 33, []), (33, .aload_n 0, 34, []), (34, .getfield 16, 37, []), (37, .invokevirtual 159, 40, []), (40, .iconst 0, 41, []), (41, .istore 4, 43, []), (43, .iload 4, 45, []), (45, .aload_n 0, 46, []), (46, .getfield 25, 49, []), (49, .iload_n 1, 50, []), (50, .iaload, 51, []), (51, .if_icmp .ge 41, 54, [92]), (54, .aload_n 0, 55, []), (55, .getfield 28, 58, []), (58, .bipush 40, 60, []), (60, .iload_n 1, 61, []), (61, .imul, 62, []), (62, .iload 4, 64, []), (64, .iadd, 65, []), (65, .aload_n 0, 66, []), (66, .getfield 22, 69, []), (69, .iload_n 1, 70, []), (70, .iaload, 71, []), (71, .aload_n 0, 72, []), (72, .iload_n 2, 73, []), (73, .iconst 1, 74, []), (74, .invokevirtual 108, 77, []), (77, .i2l, 78, []), (78, .invokestatic 270, 81, []), (81, .lastore, 82, []), (82, .aload_n 0, 83, []), (83, .invokevirtual 134, 86, []), (86, .iinc 4 1, 89, []), (89, .goto (-46), 92, [43]), (92, .aload_n 0, 93, []), (93, .iconst 0, 94, []), (94, .aload_n 0, 95, []), (95, .getfield 16, 98, []), (98, .invokevirtual 159, 101, []), (101, .aload_n 0, 102, []), (102, .getfield 25, 105, []), (105, .iload_n 1, 106, []), (106, .iaload, 107, []), (107, .ireturn, 108, [])]
theorem ok_X7_book : ∀ x ∈ C_X7_book, am_ok cX7_book 5 x = true := by decide +kernel
noncomputable def P_X7_book : AP := (PF_RX7, PK_RX7, PS_RX7, [(78, 2, F_X7_finds), (108, 3, F_X7_whose), (111, 2, F_X7_isMember), (134, 1, F_X7_oneDay), (159, 3, F_X7_moveAll), (277, 2, F_X7_badSheet)], [(270, 2, F_X7_narrow)], [])
noncomputable def g_X7_book_43  : Nat → Int32 → Int32 → Int32 → HP → Option (Int32 × HP)
  | 0, _, _, _, _ => none
  | n + 1, a1, a2, a3, h => (am_ix a1 4).bind (fun k_1 => if h_rI h 13 5 k_1 ≤ a3 then ((f_X7_moveAll 0 2 h).bind (fun q_2 => (am_ix a1 4).bind (fun k_3 => some (h_rI q_2 13 5 k_3, q_2)))) else ((am_ix a1 4).bind (fun k_4 => (f_X7_whose a2 1 h).bind (fun q_5 => (f_X7_narrow (h_rI h 13 4 k_4) (Int32.toInt64 q_5.1) q_5.2).bind (fun q_6 => (am_ix ((40 * a1) + a3) 160).bind (fun k_7 => (f_X7_oneDay (h_wJ q_6.2 14 0 k_7 q_6.1)).bind (fun q_8 => g_X7_book_43 n a1 a2 (a3 + 1) q_8)))))))
def pk_X7_book_43 (k : Int32 → Int32 → Int32 → HP → Option (Int32 × HP)) : List AV → List AV → HP → Option (Int32 × HP) := fun L st h => match L, st with
  | [.inr (.inr (.inl (7, 0))), .inl a1, .inl a2, .inl _, .inl a3], [] => k a1 a2 a3 h
  | _, _ => none
theorem pk_X7_book_43_ok {Wp : List AV → List AV → HP → Prop} {r : (Int32 × HP)} {k : Int32 → Int32 → Int32 → HP → Option (Int32 × HP)} (hk : ∀ (a1 : Int32) (a2 : Int32) (a3 : Int32) (w1 : Int32) (h : HP), k a1 a2 a3 h = some r → Wp [.inr (.inr (.inl (7, 0))), .inl a1, .inl a2, .inl w1, .inl a3] [] h) : ∀ L st h, pk_X7_book_43 k L st h = some r → Wp L st h := by
  intro L st h q
  unfold pk_X7_book_43 at q
  split at q
  · exact hk _ _ _ _ _ q
  · cases q
noncomputable def f_X7_book (a1 : Int32) (a2 : Int32) (h : HP) : Option (Int32 × HP) := (f_X7_badSheet a1 h).bind (fun q_1 => if q_1.1 = (0 : Int32) then ((f_X7_isMember a2 q_1.2).bind (fun q_2 => if q_2.1 = (0 : Int32) then ((f_X7_finds ((-1000000001)) q_2.2).bind (fun q_4 => some (q_4.1, q_4.2))) else ((f_X7_moveAll 1 2 q_2.2).bind (fun q_3 => g_X7_book_43 am_fu a1 a2 0 q_3)))) else ((f_X7_finds q_1.1 q_1.2).bind (fun q_5 => some (q_5.1, q_5.2))))
noncomputable def fl_X7_book : List AV → HP → Option (Int32 × HP) := fun as h => match as with
  | [.inr (.inr (.inl (7, 0))), .inl a1, .inl a2] => f_X7_book a1 a2 h
  | _ => none
noncomputable def F_X7_book : AF := .inl fl_X7_book
set_option maxRecDepth 20000 in
theorem w_X7_book_43 {p : Program} {l : Launch} {e : Env} {R : Room} {s : State} {m : MethodId} {args : Array Value} {below : List Frame} {meth : Method} {c : Code} {cells slots : Nat} {G : AG} {Q : (Int32 × HP) → State → Prop} (CX : am_X p l e R s m args below meth c cells slots G 5 cX7_book RX7 am_tb P_X7_book am_rI Q) {r : (Int32 × HP)} : ∀ (n : Nat) (a1 : Int32) (a2 : Int32) (a3 : Int32) (w1 : Int32) (h : HP), g_X7_book_43 n a1 a2 a3 h = some r → am_W p l e R s m args below meth c cells slots G 5 (Q r) 43 [.inr (.inr (.inl (7, 0))), .inl a1, .inl a2, .inl w1, .inl a3] [] h := by
  intro n
  induction n with
  | zero =>
    intro a1 a2 a3 w1 h q
    have q9 : (none : Option (Int32 × HP)) = some r := q
    cases q9
  | succ n ih =>
    intro a1 a2 a3 w1 h q
    exact am_run_ok CX ok_X7_book (K := [(43, pk_X7_book_43 (g_X7_book_43 n))]) (am_K1 (Wp := am_W p l e R s m args below meth c cells slots G 5 (Q r)) (pk_X7_book_43_ok (Wp := am_W p l e R s m args below meth c cells slots G 5 (Q r) 43) ih) am_K0) 31 43 _ _ _ q
set_option maxRecDepth 20000 in
theorem b_X7_book (l : Launch) (G : AG) : am_B l G 5 cX7_book RX7 am_tb P_X7_book am_rI fl_X7_book := by
  intro p e R s m args below meth c cells slots Q CX as h r q
  unfold fl_X7_book at q
  split at q
  · exact am_run_ok CX ok_X7_book (K := [(43, pk_X7_book_43 (g_X7_book_43 am_fu))]) (am_K1 (Wp := am_W p l e R s m args below meth c cells slots G 5 (Q r)) (pk_X7_book_43_ok (Wp := am_W p l e R s m args below meth c cells slots G 5 (Q r) 43) (w_X7_book_43 CX am_fu)) am_K0) 20 0 _ _ _ q
  · cases q
theorem s_X7_book : ∀ as h x, fl_X7_book as h = some x → (∀ k, (some 7 : Option Nat) = some k → ∃ (j : Nat) (as' : List AV), as = .inr (.inr (.inl (k, j))) :: as') ∧ (am_l0 as).length ≤ 5 := by
  intro as h x q
  unfold fl_X7_book at q
  split at q
  · exact ⟨fun k e => by cases e; exact ⟨_, _, rfl⟩, Nat.le_of_ble_eq_true rfl⟩
  · cases q
theorem M_X7_book (l : Launch) (G : AG) : am_M l G yX7_book cX7_book 5 (some .int) 3 65 (some 7) F_X7_book := am_M_of (f := fl_X7_book) (toR := fun x => (some (.inl x.1), x.2)) (P := P_X7_book) (Rr := am_rI) (own := RX7) (by decide) rfl (fun _ _ => rfl) s_X7_book am_wrI am_rkI pf_RX7 pk_RX7 ps_RX7 (List.forall_mem_cons.mpr ⟨cv_RX7_78 l G (by decide) (by decide), (List.forall_mem_cons.mpr ⟨cv_RX7_108 l G (by decide) (by decide), (List.forall_mem_cons.mpr ⟨cv_RX7_111 l G (by decide) (by decide), (List.forall_mem_cons.mpr ⟨cv_RX7_134 l G (by decide) (by decide), (List.forall_mem_cons.mpr ⟨cv_RX7_159 l G (by decide) (by decide), (List.forall_mem_cons.mpr ⟨cv_RX7_277 l G (by decide) (by decide), (fun _ q => by cases q)⟩)⟩)⟩)⟩)⟩)⟩) (List.forall_mem_cons.mpr ⟨cs_RX7_270 l G (by decide) (by decide), (fun _ q => by cases q)⟩) (fun _ q => by cases q) (b_X7_book l G)
def C_X7_isLed : List AC := [(0, .iconst 0, 1, []), (1, .istore 4, 3, []), (3, .iconst 0, 4, []), (4, .istore 5, 6, []), (6, .iload 5, 8, []), (8, .aload_n 0, 9, []), (9, .getfield 7, 12, []), (12, .iconst 2, 13, []), (13, .iaload, 14, []), (14, .if_icmp .ge 53, 17, [67]), (17, .iload 4, 19, []), (19, .ifCond .ne 35, 22, [54]), (22, .aload_n 0, 23, []), (23, .iload 5, 25, []), (25, .iconst 4, 26, []), (26, .invokevirtual 46, 29, []), (29, .iload_n 1, 30, []), (30, .if_icmp .ne 28, 33, [58]), (33, .aload_n 0, 34, []), (34, .iload 5, 36, []), (36, .iload_n 2, 37, []), (37, .invokevirtual 93, 40, []), (40, .ifCond .eq 18, 43, [58]), (43, .aload_n 0, 44, []), (44, .iload 5, 46, []), (46, .iload_n 2, 47, []), (47, .invokevirtual 97, 50, []), (50, .iload_n 3, 51, []), (51, .if_icmp .ne 7, 54, [58]), (54, .iconst 1, 55, []), (55, .goto 4, 58, [59]), (58, .iconst 0, 59, []), (59, .istore 4, 61, []), (61, .iinc 5 1, 64, []), (64, .goto (-58), 67, [6]), (67, .iload 4, 69, []), (69, .ireturn, 70, [])]
theorem ok_X7_isLed : ∀ x ∈ C_X7_isLed, am_ok cX7_isLed 6 x = true := by decide +kernel
noncomputable def P_X7_isLed : AP := (PF_RX7, PK_RX7, PS_RX7, [(46, 3, F_X7_its), (93, 3, F_X7_opens), (97, 3, F_X7_leadsTo)], [], [])
noncomputable def g_X7_isLed_6  : Nat → Int32 → Int32 → Int32 → Int32 → Int32 → HP → Option (Int32 × HP)
  | 0, _, _, _, _, _, _ => none
  | n + 1, a1, a2, a3, a4, a5, h => (am_ix (2 : Int32) 64).bind (fun k_1 => if h_rI h 13 0 k_1 ≤ a5 then (some (a4 &&& 1, h)) else (if a4 = (0 : Int32) then ((f_X7_its a5 4 h).bind (fun q_2 => if q_2.1 = a1 then ((f_X7_opens a5 a2 q_2.2).bind (fun q_3 => if q_3.1 = (0 : Int32) then (g_X7_isLed_6 n a1 a2 a3 0 (a5 + 1) q_3.2) else ((f_X7_leadsTo a5 a2 q_3.2).bind (fun q_4 => if q_4.1 = a3 then (g_X7_isLed_6 n a1 a2 a3 1 (a5 + 1) q_4.2) else (g_X7_isLed_6 n a1 a2 a3 0 (a5 + 1) q_4.2))))) else (g_X7_isLed_6 n a1 a2 a3 0 (a5 + 1) q_2.2))) else (g_X7_isLed_6 n a1 a2 a3 1 (a5 + 1) h)))
def pk_X7_isLed_6 (k : Int32 → Int32 → Int32 → Int32 → Int32 → HP → Option (Int32 × HP)) : List AV → List AV → HP → Option (Int32 × HP) := fun L st h => match L, st with
  | [.inr (.inr (.inl (7, 0))), .inl a1, .inl a2, .inl a3, .inl a4, .inl a5], [] => k a1 a2 a3 a4 a5 h
  | _, _ => none
theorem pk_X7_isLed_6_ok {Wp : List AV → List AV → HP → Prop} {r : (Int32 × HP)} {k : Int32 → Int32 → Int32 → Int32 → Int32 → HP → Option (Int32 × HP)} (hk : ∀ (a1 : Int32) (a2 : Int32) (a3 : Int32) (a4 : Int32) (a5 : Int32) (h : HP), k a1 a2 a3 a4 a5 h = some r → Wp [.inr (.inr (.inl (7, 0))), .inl a1, .inl a2, .inl a3, .inl a4, .inl a5] [] h) : ∀ L st h, pk_X7_isLed_6 k L st h = some r → Wp L st h := by
  intro L st h q
  unfold pk_X7_isLed_6 at q
  split at q
  · exact hk _ _ _ _ _ _ q
  · cases q
noncomputable def f_X7_isLed (a1 : Int32) (a2 : Int32) (a3 : Int32) (h : HP) : Option (Int32 × HP) := g_X7_isLed_6 am_fu a1 a2 a3 0 0 h
noncomputable def fl_X7_isLed : List AV → HP → Option (Int32 × HP) := fun as h => match as with
  | [.inr (.inr (.inl (7, 0))), .inl a1, .inl a2, .inl a3] => f_X7_isLed a1 a2 a3 h
  | _ => none
noncomputable def F_X7_isLed : AF := .inl fl_X7_isLed
set_option maxRecDepth 20000 in
theorem w_X7_isLed_6 {p : Program} {l : Launch} {e : Env} {R : Room} {s : State} {m : MethodId} {args : Array Value} {below : List Frame} {meth : Method} {c : Code} {cells slots : Nat} {G : AG} {Q : (Int32 × HP) → State → Prop} (CX : am_X p l e R s m args below meth c cells slots G 6 cX7_isLed RX7 am_tb P_X7_isLed am_rZ Q) {r : (Int32 × HP)} : ∀ (n : Nat) (a1 : Int32) (a2 : Int32) (a3 : Int32) (a4 : Int32) (a5 : Int32) (h : HP), g_X7_isLed_6 n a1 a2 a3 a4 a5 h = some r → am_W p l e R s m args below meth c cells slots G 6 (Q r) 6 [.inr (.inr (.inl (7, 0))), .inl a1, .inl a2, .inl a3, .inl a4, .inl a5] [] h := by
  intro n
  induction n with
  | zero =>
    intro a1 a2 a3 a4 a5 h q
    have q9 : (none : Option (Int32 × HP)) = some r := q
    cases q9
  | succ n ih =>
    intro a1 a2 a3 a4 a5 h q
    exact am_run_ok CX ok_X7_isLed (K := [(6, pk_X7_isLed_6 (g_X7_isLed_6 n))]) (am_K1 (Wp := am_W p l e R s m args below meth c cells slots G 6 (Q r)) (pk_X7_isLed_6_ok (Wp := am_W p l e R s m args below meth c cells slots G 6 (Q r) 6) ih) am_K0) 33 6 _ _ _ q
set_option maxRecDepth 20000 in
theorem b_X7_isLed (l : Launch) (G : AG) : am_B l G 6 cX7_isLed RX7 am_tb P_X7_isLed am_rZ fl_X7_isLed := by
  intro p e R s m args below meth c cells slots Q CX as h r q
  unfold fl_X7_isLed at q
  split at q
  · exact am_run_ok CX ok_X7_isLed (K := [(6, pk_X7_isLed_6 (g_X7_isLed_6 am_fu))]) (am_K1 (Wp := am_W p l e R s m args below meth c cells slots G 6 (Q r)) (pk_X7_isLed_6_ok (Wp := am_W p l e R s m args below meth c cells slots G 6 (Q r) 6) (w_X7_isLed_6 CX am_fu)) am_K0) 7 0 _ _ _ q
  · cases q
theorem s_X7_isLed : ∀ as h x, fl_X7_isLed as h = some x → (∀ k, (some 7 : Option Nat) = some k → ∃ (j : Nat) (as' : List AV), as = .inr (.inr (.inl (k, j))) :: as') ∧ (am_l0 as).length ≤ 6 := by
  intro as h x q
  unfold fl_X7_isLed at q
  split at q
  · exact ⟨fun k e => by cases e; exact ⟨_, _, rfl⟩, Nat.le_of_ble_eq_true rfl⟩
  · cases q
theorem M_X7_isLed (l : Launch) (G : AG) : am_M l G yX7_isLed cX7_isLed 6 (some .boolean) 5 112 (some 7) F_X7_isLed := am_M_of (f := fl_X7_isLed) (toR := fun x => (some (.inl x.1), x.2)) (P := P_X7_isLed) (Rr := am_rZ) (own := RX7) (by decide) rfl (fun _ _ => rfl) s_X7_isLed am_wrI am_rkZ pf_RX7 pk_RX7 ps_RX7 (List.forall_mem_cons.mpr ⟨cv_RX7_46 l G (by decide) (by decide), (List.forall_mem_cons.mpr ⟨cv_RX7_93 l G (by decide) (by decide), (List.forall_mem_cons.mpr ⟨cv_RX7_97 l G (by decide) (by decide), (fun _ q => by cases q)⟩)⟩)⟩) (fun _ q => by cases q) (fun _ q => by cases q) (b_X7_isLed l G)
theorem cv_RX7_284 (l : Launch) (G : AG) {fr lo : Nat} (h1 : 5 + 1 ≤ fr) (h2 : 8 + (6 + 11) + 112 ≤ lo) : am_cvOK l G RX7 fr lo (284, 4, F_X7_isLed) := ⟨yX7_isLed, cX7_isLed, 6, (some .boolean), 5, 112, 7, RX7, M_X7_isLed l G, ⟨(am_tb_mem (wd_25 _ (List.mem_of_getElem? (i := 21) rfl))), (am_tb_mem (wd_25 _ (List.mem_of_getElem? (i := 22) rfl))), (am_tb_mem (wd_1 _ (List.mem_of_getElem? (i := 17) rfl))), (am_tb_mem (wd_1 _ (List.mem_of_getElem? (i := 26) rfl))), (am_tb_mem (wd_25 _ (List.mem_of_getElem? (i := 23) rfl)))⟩, ⟨rfl, by decide, by decide, by decide +kernel⟩, Or.inl ⟨by decide, rfl⟩, h1, h2⟩
def C_X7_read : List AC := [(0, .aload_n 0, 1, []), (1, .iload_n 1, 2, []), (2, .invokevirtual 277, 5, []), (5, .istore_n 3, 6, []), (6, .iload_n 3, 7, []), (7, .ifCond .eq 9, 10, [16]), (10, .aload_n 0, 11, []), (11, .iload_n 3, 12, []), (12, .invokevirtual 78, 15, []), (15, .ireturn, 16, []), (16, .aload_n 0, 17, []), (17, .iload_n 2, 18, []), (18, .invokevirtual 111, 21, []), (21, .ifCond .ne 10, 24, [31]), (24, .aload_n 0, 25, []), (25, .ldc 41, 27, []), (27, .invokevirtual 78, 30, []), (30, .ireturn, 31, []), (31, .aload_n 0, 32, []), (32, .iload_n 2, 33, []), (33, .iconst 0, 34, []), (34, .invokevirtual 108, 37, []), (37, .istore 4, 39, []), (39, .iconst 0, 40, []), (40, .istore 5, 42, []), (42, .iload 5, 44, []), (44, .aload_n 0, 45, []), (45, .getfield 25, 48, []), (48, .iload_n 1, 49, []), (49, .iaload, 50, []), (50, .if_icmp .ge 100, 53, [150]), (53, .aload_n 0, 54, []), (54, .getfield 28, 57, []), (57, .bipush 40, 59, []), (59, .iload_n 1, 60, []), (60, .imul, 61, []), (61, .iload 5, 63, []), (63, .iadd, 64, []), (64, .laload, 65, []), (65, .lstore 6, 67, []), (67, .lload 6, 69, []), (69, .lconst 0, 70, []), (70, .lcmp, 71, []), (71, .ifCond .lt 16, 74, [87]), (74, .lload 6, 76, []), (76, .ldc2_w 282, 79, []), (79, .lcmp, 80, []), (80, .ifCond .ge 7, 83, [87]), (83, .iconst 1, 84, []), (84, .goto 4, 87, [88]), (87, .iconst 0, 88, []), (88, .istore 8, 90, []), (90, .iload 8, 92, []), (92, .ifCond .eq 37, 95, [129]), (95, .iload 5, 97, []), (97, .ifCond .ne 20, 100, [117]), (100, .lload 6, 102, []), (102, .iload 4, 104, []), (104, .i2l, 105, []), (105, .lcmp, 106, []), (106, .ifCond .ne 7, 109, [113]), (109, .iconst 1, 110, []), (110, .goto 17, 113, [127]), (113, .iconst 0, 114, []), (114, .goto 13, 117, [127]), (117, .aload_n 0, 118, []), (118, .iload_n 2, 119, []), (119, .iload 4, 121, []), (121, .lload 6, 123, []), (123, .l2i, 124, []), (124, .invokevirtual 284, 127, []), (127, .istore 8, 129, []), (129, .iload 8, 131, []), (131, .ifCond .ne 8, 134, [139]), (134, .iconst 1, 135, []), (135, .iload 5, 137, []), (137, .iadd, 138, []), (138, .ireturn, 139, []), (139, .lload 6, 141, []), (141, .l2i, 142, []), (142, .istore 4, 144, []), (144, .iinc 5 1, 147, []), (147, .goto (-105), 150, [42]), (150, .iconst 0, 151, []), (151, .ireturn, 152, [])]
theorem ok_X7_read : ∀ x ∈ C_X7_read, am_ok cX7_read 9 x = true := by decide +kernel
noncomputable def P_X7_read : AP := (PF_RX7, PK_RX7, PS_RX7, [(78, 2, F_X7_finds), (108, 3, F_X7_whose), (111, 2, F_X7_isMember), (277, 2, F_X7_badSheet), (284, 4, F_X7_isLed)], [], [])
noncomputable def g_X7_read_129 (k42 : Int32 → Int32 → Int32 → Int32 → HP → Option (Int32 × HP)) (a1 : Int32) (a2 : Int32) (a3 : Int32) (a4 : Int64) (a5 : Int32) (h : HP) : Option (Int32 × HP) := if a5 = (0 : Int32) then (some (1 + a3, h)) else (k42 a1 a2 (Int64.toInt32 a4) (a3 + 1) h)
def pk_X7_read_129 (k : Int32 → Int32 → Int32 → Int64 → Int32 → HP → Option (Int32 × HP)) : List AV → List AV → HP → Option (Int32 × HP) := fun L st h => match L, st with
  | [.inr (.inr (.inl (7, 0))), .inl a1, .inl a2, .inl _, .inl _, .inl a3, .inr (.inl a4), .inr (.inr (.inr ())), .inl a5], [] => k a1 a2 a3 a4 a5 h
  | _, _ => none
theorem pk_X7_read_129_ok {Wp : List AV → List AV → HP → Prop} {r : (Int32 × HP)} {k : Int32 → Int32 → Int32 → Int64 → Int32 → HP → Option (Int32 × HP)} (hk : ∀ (a1 : Int32) (a2 : Int32) (a3 : Int32) (a4 : Int64) (a5 : Int32) (w1 : Int32) (w2 : Int32) (h : HP), k a1 a2 a3 a4 a5 h = some r → Wp [.inr (.inr (.inl (7, 0))), .inl a1, .inl a2, .inl w1, .inl w2, .inl a3, .inr (.inl a4), .inr (.inr (.inr ())), .inl a5] [] h) : ∀ L st h, pk_X7_read_129 k L st h = some r → Wp L st h := by
  intro L st h q
  unfold pk_X7_read_129 at q
  split at q
  · exact hk _ _ _ _ _ _ _ _ q
  · cases q
noncomputable def g_X7_read_88 (k42 : Int32 → Int32 → Int32 → Int32 → HP → Option (Int32 × HP)) (a1 : Int32) (a2 : Int32) (a3 : Int32) (a4 : Int32) (a5 : Int64) (a6 : Int32) (h : HP) : Option (Int32 × HP) := if a6 = (0 : Int32) then (g_X7_read_129 k42 a1 a2 a4 a5 a6 h) else (if a4 = (0 : Int32) then (if lg_cmp a5 (Int32.toInt64 a3) = (0 : Int32) then (g_X7_read_129 k42 a1 a2 a4 a5 1 h) else (g_X7_read_129 k42 a1 a2 a4 a5 0 h)) else ((f_X7_isLed a2 a3 (Int64.toInt32 a5) h).bind (fun q_1 => g_X7_read_129 k42 a1 a2 a4 a5 q_1.1 q_1.2)))
def pk_X7_read_88 (k : Int32 → Int32 → Int32 → Int32 → Int64 → Int32 → HP → Option (Int32 × HP)) : List AV → List AV → HP → Option (Int32 × HP) := fun L st h => match L, st with
  | [.inr (.inr (.inl (7, 0))), .inl a1, .inl a2, .inl _, .inl a3, .inl a4, .inr (.inl a5), .inr (.inr (.inr ())), _], [.inl a6] => k a1 a2 a3 a4 a5 a6 h
  | _, _ => none
theorem pk_X7_read_88_ok {Wp : List AV → List AV → HP → Prop} {r : (Int32 × HP)} {k : Int32 → Int32 → Int32 → Int32 → Int64 → Int32 → HP → Option (Int32 × HP)} (hk : ∀ (a1 : Int32) (a2 : Int32) (a3 : Int32) (a4 : Int32) (a5 : Int64) (a6 : Int32) (w1 : Int32) (w2 : AV) (h : HP), k a1 a2 a3 a4 a5 a6 h = some r → Wp [.inr (.inr (.inl (7, 0))), .inl a1, .inl a2, .inl w1, .inl a3, .inl a4, .inr (.inl a5), .inr (.inr (.inr ())), w2] [.inl a6] h) : ∀ L st h, pk_X7_read_88 k L st h = some r → Wp L st h := by
  intro L st h q
  unfold pk_X7_read_88 at q
  split at q
  · exact hk _ _ _ _ _ _ _ _ _ q
  · cases q
noncomputable def g_X7_read_42  : Nat → Int32 → Int32 → Int32 → Int32 → HP → Option (Int32 × HP)
  | 0, _, _, _, _, _ => none
  | n + 1, a1, a2, a3, a4, h => (am_ix a1 4).bind (fun k_1 => if h_rI h 13 5 k_1 ≤ a4 then (some (0, h)) else ((am_ix ((40 * a1) + a4) 160).bind (fun k_2 => if lg_cmp (h_rJ h 14 0 k_2) 0 < (0 : Int32) then (g_X7_read_88 (g_X7_read_42 n) a1 a2 a3 a4 (h_rJ h 14 0 k_2) 0 h) else (if (0 : Int32) ≤ lg_cmp (h_rJ h 14 0 k_2) 16 then (g_X7_read_88 (g_X7_read_42 n) a1 a2 a3 a4 (h_rJ h 14 0 k_2) 0 h) else (g_X7_read_88 (g_X7_read_42 n) a1 a2 a3 a4 (h_rJ h 14 0 k_2) 1 h)))))
def pk_X7_read_42 (k : Int32 → Int32 → Int32 → Int32 → HP → Option (Int32 × HP)) : List AV → List AV → HP → Option (Int32 × HP) := fun L st h => match L, st with
  | [.inr (.inr (.inl (7, 0))), .inl a1, .inl a2, .inl _, .inl a3, .inl a4, _, .inr (.inr (.inr ())), _], [] => k a1 a2 a3 a4 h
  | _, _ => none
theorem pk_X7_read_42_ok {Wp : List AV → List AV → HP → Prop} {r : (Int32 × HP)} {k : Int32 → Int32 → Int32 → Int32 → HP → Option (Int32 × HP)} (hk : ∀ (a1 : Int32) (a2 : Int32) (a3 : Int32) (a4 : Int32) (w1 : Int32) (w2 : AV) (w3 : AV) (h : HP), k a1 a2 a3 a4 h = some r → Wp [.inr (.inr (.inl (7, 0))), .inl a1, .inl a2, .inl w1, .inl a3, .inl a4, w2, .inr (.inr (.inr ())), w3] [] h) : ∀ L st h, pk_X7_read_42 k L st h = some r → Wp L st h := by
  intro L st h q
  unfold pk_X7_read_42 at q
  split at q
  · exact hk _ _ _ _ _ _ _ _ q
  · cases q
noncomputable def f_X7_read (a1 : Int32) (a2 : Int32) (h : HP) : Option (Int32 × HP) := (f_X7_badSheet a1 h).bind (fun q_1 => if q_1.1 = (0 : Int32) then ((f_X7_isMember a2 q_1.2).bind (fun q_2 => if q_2.1 = (0 : Int32) then ((f_X7_finds ((-1000000001)) q_2.2).bind (fun q_4 => some (q_4.1, q_4.2))) else ((f_X7_whose a2 0 q_2.2).bind (fun q_3 => g_X7_read_42 am_fu a1 a2 q_3.1 0 q_3.2)))) else ((f_X7_finds q_1.1 q_1.2).bind (fun q_5 => some (q_5.1, q_5.2))))
noncomputable def fl_X7_read : List AV → HP → Option (Int32 × HP) := fun as h => match as with
  | [.inr (.inr (.inl (7, 0))), .inl a1, .inl a2] => f_X7_read a1 a2 h
  | _ => none
noncomputable def F_X7_read : AF := .inl fl_X7_read
set_option maxRecDepth 20000 in
theorem w_X7_read_129 {p : Program} {l : Launch} {e : Env} {R : Room} {s : State} {m : MethodId} {args : Array Value} {below : List Frame} {meth : Method} {c : Code} {cells slots : Nat} {G : AG} {Q : (Int32 × HP) → State → Prop} (CX : am_X p l e R s m args below meth c cells slots G 9 cX7_read RX7 am_tb P_X7_read am_rI Q) {r : (Int32 × HP)} {k42 : Int32 → Int32 → Int32 → Int32 → HP → Option (Int32 × HP)} (hk42 : ∀ (a1 : Int32) (a2 : Int32) (a3 : Int32) (a4 : Int32) (w1 : Int32) (w2 : AV) (w3 : AV) (h : HP), k42 a1 a2 a3 a4 h = some r → am_W p l e R s m args below meth c cells slots G 9 (Q r) 42 [.inr (.inr (.inl (7, 0))), .inl a1, .inl a2, .inl w1, .inl a3, .inl a4, w2, .inr (.inr (.inr ())), w3] [] h) : ∀ (a1 : Int32) (a2 : Int32) (a3 : Int32) (a4 : Int64) (a5 : Int32) (w1 : Int32) (w2 : Int32) (h : HP), g_X7_read_129 k42 a1 a2 a3 a4 a5 h = some r → am_W p l e R s m args below meth c cells slots G 9 (Q r) 129 [.inr (.inr (.inl (7, 0))), .inl a1, .inl a2, .inl w1, .inl w2, .inl a3, .inr (.inl a4), .inr (.inr (.inr ())), .inl a5] [] h := by
  intro a1 a2 a3 a4 a5 w1 w2 h q
  exact am_run_ok CX ok_X7_read (K := [(42, pk_X7_read_42 (k42))]) (am_K1 (Wp := am_W p l e R s m args below meth c cells slots G 9 (Q r)) (pk_X7_read_42_ok (Wp := am_W p l e R s m args below meth c cells slots G 9 (Q r) 42) hk42) am_K0) 10 129 _ _ _ q
set_option maxRecDepth 20000 in
theorem w_X7_read_88 {p : Program} {l : Launch} {e : Env} {R : Room} {s : State} {m : MethodId} {args : Array Value} {below : List Frame} {meth : Method} {c : Code} {cells slots : Nat} {G : AG} {Q : (Int32 × HP) → State → Prop} (CX : am_X p l e R s m args below meth c cells slots G 9 cX7_read RX7 am_tb P_X7_read am_rI Q) {r : (Int32 × HP)} {k42 : Int32 → Int32 → Int32 → Int32 → HP → Option (Int32 × HP)} (hk42 : ∀ (a1 : Int32) (a2 : Int32) (a3 : Int32) (a4 : Int32) (w1 : Int32) (w2 : AV) (w3 : AV) (h : HP), k42 a1 a2 a3 a4 h = some r → am_W p l e R s m args below meth c cells slots G 9 (Q r) 42 [.inr (.inr (.inl (7, 0))), .inl a1, .inl a2, .inl w1, .inl a3, .inl a4, w2, .inr (.inr (.inr ())), w3] [] h) : ∀ (a1 : Int32) (a2 : Int32) (a3 : Int32) (a4 : Int32) (a5 : Int64) (a6 : Int32) (w1 : Int32) (w2 : AV) (h : HP), g_X7_read_88 k42 a1 a2 a3 a4 a5 a6 h = some r → am_W p l e R s m args below meth c cells slots G 9 (Q r) 88 [.inr (.inr (.inl (7, 0))), .inl a1, .inl a2, .inl w1, .inl a3, .inl a4, .inr (.inl a5), .inr (.inr (.inr ())), w2] [.inl a6] h := by
  intro a1 a2 a3 a4 a5 a6 w1 w2 h q
  exact am_run_ok CX ok_X7_read (K := [(129, pk_X7_read_129 (g_X7_read_129 k42))]) (am_K1 (Wp := am_W p l e R s m args below meth c cells slots G 9 (Q r)) (pk_X7_read_129_ok (Wp := am_W p l e R s m args below meth c cells slots G 9 (Q r) 129) (w_X7_read_129 CX hk42)) am_K0) 16 88 _ _ _ q
set_option maxRecDepth 20000 in
theorem w_X7_read_42 {p : Program} {l : Launch} {e : Env} {R : Room} {s : State} {m : MethodId} {args : Array Value} {below : List Frame} {meth : Method} {c : Code} {cells slots : Nat} {G : AG} {Q : (Int32 × HP) → State → Prop} (CX : am_X p l e R s m args below meth c cells slots G 9 cX7_read RX7 am_tb P_X7_read am_rI Q) {r : (Int32 × HP)} : ∀ (n : Nat) (a1 : Int32) (a2 : Int32) (a3 : Int32) (a4 : Int32) (w1 : Int32) (w2 : AV) (w3 : AV) (h : HP), g_X7_read_42 n a1 a2 a3 a4 h = some r → am_W p l e R s m args below meth c cells slots G 9 (Q r) 42 [.inr (.inr (.inl (7, 0))), .inl a1, .inl a2, .inl w1, .inl a3, .inl a4, w2, .inr (.inr (.inr ())), w3] [] h := by
  intro n
  induction n with
  | zero =>
    intro a1 a2 a3 a4 w1 w2 w3 h q
    have q9 : (none : Option (Int32 × HP)) = some r := q
    cases q9
  | succ n ih =>
    intro a1 a2 a3 a4 w1 w2 w3 h q
    exact am_run_ok CX ok_X7_read (K := [(88, pk_X7_read_88 (g_X7_read_88 (g_X7_read_42 n)))]) (am_K1 (Wp := am_W p l e R s m args below meth c cells slots G 9 (Q r)) (pk_X7_read_88_ok (Wp := am_W p l e R s m args below meth c cells slots G 9 (Q r) 88) (w_X7_read_88 CX ih)) am_K0) 28 42 _ _ _ q
set_option maxRecDepth 20000 in
theorem b_X7_read (l : Launch) (G : AG) : am_B l G 9 cX7_read RX7 am_tb P_X7_read am_rI fl_X7_read := by
  intro p e R s m args below meth c cells slots Q CX as h r q
  unfold fl_X7_read at q
  split at q
  · exact am_run_ok CX ok_X7_read (K := [(42, pk_X7_read_42 (g_X7_read_42 am_fu))]) (am_K1 (Wp := am_W p l e R s m args below meth c cells slots G 9 (Q r)) (pk_X7_read_42_ok (Wp := am_W p l e R s m args below meth c cells slots G 9 (Q r) 42) (w_X7_read_42 CX am_fu)) am_K0) 20 0 _ _ _ q
  · cases q
theorem s_X7_read : ∀ as h x, fl_X7_read as h = some x → (∀ k, (some 7 : Option Nat) = some k → ∃ (j : Nat) (as' : List AV), as = .inr (.inr (.inl (k, j))) :: as') ∧ (am_l0 as).length ≤ 9 := by
  intro as h x q
  unfold fl_X7_read at q
  split at q
  · exact ⟨fun k e => by cases e; exact ⟨_, _, rfl⟩, Nat.le_of_ble_eq_true rfl⟩
  · cases q
theorem M_X7_read (l : Launch) (G : AG) : am_M l G yX7_read cX7_read 9 (some .int) 6 137 (some 7) F_X7_read := am_M_of (f := fl_X7_read) (toR := fun x => (some (.inl x.1), x.2)) (P := P_X7_read) (Rr := am_rI) (own := RX7) (by decide) rfl (fun _ _ => rfl) s_X7_read am_wrI am_rkI pf_RX7 pk_RX7 ps_RX7 (List.forall_mem_cons.mpr ⟨cv_RX7_78 l G (by decide) (by decide), (List.forall_mem_cons.mpr ⟨cv_RX7_108 l G (by decide) (by decide), (List.forall_mem_cons.mpr ⟨cv_RX7_111 l G (by decide) (by decide), (List.forall_mem_cons.mpr ⟨cv_RX7_277 l G (by decide) (by decide), (List.forall_mem_cons.mpr ⟨cv_RX7_284 l G (by decide) (by decide), (fun _ q => by cases q)⟩)⟩)⟩)⟩)⟩) (fun _ q => by cases q) (fun _ q => by cases q) (b_X7_read l G)
def C_X7_image : List AC := [(0, .aload_n 0, 1, []), (1, .iconst 1, 2, []), (2, .aload_n 0, 3, []), (3, .getfield 35, 6, []), (6, .invokevirtual 159, 9, []), (9, .aload_n 0, 10, []), (10, .iconst 1, 11, []), (11, .putfield 287, 14, []), (14, .iconst 1, 15, []), (15, .ireturn, 16, [])]
theorem ok_X7_image : ∀ x ∈ C_X7_image, am_ok cX7_image 1 x = true := by decide +kernel
noncomputable def P_X7_image : AP := (PF_RX7, PK_RX7, PS_RX7, [(159, 3, F_X7_moveAll)], [], [])
noncomputable def f_X7_image  (h : HP) : Option (Int32 × HP) := (f_X7_moveAll 1 6 h).bind (fun q_1 => some (1, h_wI q_1 7 0 17 1))
noncomputable def fl_X7_image : List AV → HP → Option (Int32 × HP) := fun as h => match as with
  | [.inr (.inr (.inl (7, 0)))] => f_X7_image h
  | _ => none
noncomputable def F_X7_image : AF := .inl fl_X7_image
set_option maxRecDepth 20000 in
theorem b_X7_image (l : Launch) (G : AG) : am_B l G 1 cX7_image RX7 am_tb P_X7_image am_rI fl_X7_image := by
  intro p e R s m args below meth c cells slots Q CX as h r q
  unfold fl_X7_image at q
  split at q
  · exact am_run_ok CX ok_X7_image (K := []) (am_K0 (Wp := am_W p l e R s m args below meth c cells slots G 1 (Q r))) 13 0 _ _ _ q
  · cases q
theorem s_X7_image : ∀ as h x, fl_X7_image as h = some x → (∀ k, (some 7 : Option Nat) = some k → ∃ (j : Nat) (as' : List AV), as = .inr (.inr (.inl (k, j))) :: as') ∧ (am_l0 as).length ≤ 1 := by
  intro as h x q
  unfold fl_X7_image at q
  split at q
  · exact ⟨fun k e => by cases e; exact ⟨_, _, rfl⟩, Nat.le_of_ble_eq_true rfl⟩
  · cases q
theorem M_X7_image (l : Launch) (G : AG) : am_M l G yX7_image cX7_image 1 (some .int) 1 23 (some 7) F_X7_image := am_M_of (f := fl_X7_image) (toR := fun x => (some (.inl x.1), x.2)) (P := P_X7_image) (Rr := am_rI) (own := RX7) (by decide) rfl (fun _ _ => rfl) s_X7_image am_wrI am_rkI pf_RX7 pk_RX7 ps_RX7 (List.forall_mem_cons.mpr ⟨cv_RX7_159 l G (by decide) (by decide), (fun _ q => by cases q)⟩) (fun _ q => by cases q) (fun _ q => by cases q) (b_X7_image l G)
def C_X7_undo : List AC := [(0, .aload_n 0, 1, []), (1, .getfield 287, 4, []), (4, .ifCond .ne 10, 7, [14]), (7, .aload_n 0, 8, []), (8, .ldc 100, 10, []), (10, .invokevirtual 78, 13, []), (13, .ireturn, 14, []), (14, .aload_n 0, 15, []), (15, .iconst 0, 16, []), (16, .aload_n 0, 17, []), (17, .getfield 35, 20, []), (20, .invokevirtual 159, 23, []), (23, .aload_n 0, 24, []), (24, .getfield 7, 27, []), (27, .iconst 2, 28, []), (28, .iaload, 29, []), (29, .ireturn, 30, [])]
theorem ok_X7_undo : ∀ x ∈ C_X7_undo, am_ok cX7_undo 1 x = true := by decide +kernel
noncomputable def P_X7_undo : AP := (PF_RX7, PK_RX7, PS_RX7, [(78, 2, F_X7_finds), (159, 3, F_X7_moveAll)], [], [])
noncomputable def f_X7_undo  (h : HP) : Option (Int32 × HP) := if h_rI h 7 0 17 = (0 : Int32) then ((f_X7_finds ((-1000000004)) h).bind (fun q_3 => some (q_3.1, q_3.2))) else ((f_X7_moveAll 0 6 h).bind (fun q_1 => (am_ix (2 : Int32) 64).bind (fun k_2 => some (h_rI q_1 13 0 k_2, q_1))))
noncomputable def fl_X7_undo : List AV → HP → Option (Int32 × HP) := fun as h => match as with
  | [.inr (.inr (.inl (7, 0)))] => f_X7_undo h
  | _ => none
noncomputable def F_X7_undo : AF := .inl fl_X7_undo
set_option maxRecDepth 20000 in
theorem b_X7_undo (l : Launch) (G : AG) : am_B l G 1 cX7_undo RX7 am_tb P_X7_undo am_rI fl_X7_undo := by
  intro p e R s m args below meth c cells slots Q CX as h r q
  unfold fl_X7_undo at q
  split at q
  · exact am_run_ok CX ok_X7_undo (K := []) (am_K0 (Wp := am_W p l e R s m args below meth c cells slots G 1 (Q r))) 16 0 _ _ _ q
  · cases q
theorem s_X7_undo : ∀ as h x, fl_X7_undo as h = some x → (∀ k, (some 7 : Option Nat) = some k → ∃ (j : Nat) (as' : List AV), as = .inr (.inr (.inl (k, j))) :: as') ∧ (am_l0 as).length ≤ 1 := by
  intro as h x q
  unfold fl_X7_undo at q
  split at q
  · exact ⟨fun k e => by cases e; exact ⟨_, _, rfl⟩, Nat.le_of_ble_eq_true rfl⟩
  · cases q
theorem M_X7_undo (l : Launch) (G : AG) : am_M l G yX7_undo cX7_undo 1 (some .int) 1 23 (some 7) F_X7_undo := am_M_of (f := fl_X7_undo) (toR := fun x => (some (.inl x.1), x.2)) (P := P_X7_undo) (Rr := am_rI) (own := RX7) (by decide) rfl (fun _ _ => rfl) s_X7_undo am_wrI am_rkI pf_RX7 pk_RX7 ps_RX7 (List.forall_mem_cons.mpr ⟨cv_RX7_78 l G (by decide) (by decide), (List.forall_mem_cons.mpr ⟨cv_RX7_159 l G (by decide) (by decide), (fun _ q => by cases q)⟩)⟩) (fun _ q => by cases q) (fun _ q => by cases q) (b_X7_undo l G)
def C_X7_tear : List AC := [(0, .aload_n 0, 1, []), (1, .getfield 287, 4, []), (4, .ifCond .eq 7, 7, [11]), (7, .iconst 1, 8, []), (8, .goto 4, 11, [12]), (11, .iconst 0, 12, []), (12, .istore_n 1, 13, []), (13, .aload_n 0, 14, []), (14, .iconst 0, 15, []), (15, .putfield 287, 18, []), (18, .iload_n 1, 19, []), (19, .ireturn, 20, [])]
theorem ok_X7_tear : ∀ x ∈ C_X7_tear, am_ok cX7_tear 2 x = true := by decide +kernel
noncomputable def P_X7_tear : AP := (PF_RX7, PK_RX7, PS_RX7, [], [], [])
noncomputable def g_X7_tear_12 (a1 : Int32) (h : HP) : Option (Int32 × HP) := some (a1, h_wI h 7 0 17 0)
def pk_X7_tear_12 (k : Int32 → HP → Option (Int32 × HP)) : List AV → List AV → HP → Option (Int32 × HP) := fun L st h => match L, st with
  | [.inr (.inr (.inl (7, 0))), .inr (.inr (.inr ()))], [.inl a1] => k a1 h
  | _, _ => none
theorem pk_X7_tear_12_ok {Wp : List AV → List AV → HP → Prop} {r : (Int32 × HP)} {k : Int32 → HP → Option (Int32 × HP)} (hk : ∀ (a1 : Int32) (h : HP), k a1 h = some r → Wp [.inr (.inr (.inl (7, 0))), .inr (.inr (.inr ()))] [.inl a1] h) : ∀ L st h, pk_X7_tear_12 k L st h = some r → Wp L st h := by
  intro L st h q
  unfold pk_X7_tear_12 at q
  split at q
  · exact hk _ _ q
  · cases q
noncomputable def f_X7_tear  (h : HP) : Option (Int32 × HP) := if h_rI h 7 0 17 = (0 : Int32) then (g_X7_tear_12 0 h) else (g_X7_tear_12 1 h)
noncomputable def fl_X7_tear : List AV → HP → Option (Int32 × HP) := fun as h => match as with
  | [.inr (.inr (.inl (7, 0)))] => f_X7_tear h
  | _ => none
noncomputable def F_X7_tear : AF := .inl fl_X7_tear
set_option maxRecDepth 20000 in
theorem w_X7_tear_12 {p : Program} {l : Launch} {e : Env} {R : Room} {s : State} {m : MethodId} {args : Array Value} {below : List Frame} {meth : Method} {c : Code} {cells slots : Nat} {G : AG} {Q : (Int32 × HP) → State → Prop} (CX : am_X p l e R s m args below meth c cells slots G 2 cX7_tear RX7 am_tb P_X7_tear am_rI Q) {r : (Int32 × HP)} : ∀ (a1 : Int32) (h : HP), g_X7_tear_12 a1 h = some r → am_W p l e R s m args below meth c cells slots G 2 (Q r) 12 [.inr (.inr (.inl (7, 0))), .inr (.inr (.inr ()))] [.inl a1] h := by
  intro a1 h q
  exact am_run_ok CX ok_X7_tear (K := []) (am_K0 (Wp := am_W p l e R s m args below meth c cells slots G 2 (Q r))) 9 12 _ _ _ q
set_option maxRecDepth 20000 in
theorem b_X7_tear (l : Launch) (G : AG) : am_B l G 2 cX7_tear RX7 am_tb P_X7_tear am_rI fl_X7_tear := by
  intro p e R s m args below meth c cells slots Q CX as h r q
  unfold fl_X7_tear at q
  split at q
  · exact am_run_ok CX ok_X7_tear (K := [(12, pk_X7_tear_12 (g_X7_tear_12))]) (am_K1 (Wp := am_W p l e R s m args below meth c cells slots G 2 (Q r)) (pk_X7_tear_12_ok (Wp := am_W p l e R s m args below meth c cells slots G 2 (Q r) 12) (w_X7_tear_12 CX)) am_K0) 8 0 _ _ _ q
  · cases q
theorem s_X7_tear : ∀ as h x, fl_X7_tear as h = some x → (∀ k, (some 7 : Option Nat) = some k → ∃ (j : Nat) (as' : List AV), as = .inr (.inr (.inl (k, j))) :: as') ∧ (am_l0 as).length ≤ 2 := by
  intro as h x q
  unfold fl_X7_tear at q
  split at q
  · exact ⟨fun k e => by cases e; exact ⟨_, _, rfl⟩, Nat.le_of_ble_eq_true rfl⟩
  · cases q
theorem M_X7_tear (l : Launch) (G : AG) : am_M l G yX7_tear cX7_tear 2 (some .int) 0 0 (some 7) F_X7_tear := am_M_of (f := fl_X7_tear) (toR := fun x => (some (.inl x.1), x.2)) (P := P_X7_tear) (Rr := am_rI) (own := RX7) (by decide) rfl (fun _ _ => rfl) s_X7_tear am_wrI am_rkI pf_RX7 pk_RX7 ps_RX7 (fun _ q => by cases q) (fun _ q => by cases q) (fun _ q => by cases q) (b_X7_tear l G)
def C_X7_pairs : List AC := [(0, .iconst 0, 1, []), (1, .istore_n 1, 2, []), (2, .iconst 0, 3, []), (3, .istore_n 2, 4, []), (4, .iload_n 2, 5, []), (5, .aload_n 0, 6, []), (6, .getfield 7, 9, []), (9, .iconst 2, 10, []), (10, .iaload, 11, []), (11, .if_icmp .ge 39, 14, [50]), (14, .iconst 0, 15, []), (15, .istore_n 3, 16, []), (16, .iload_n 3, 17, []), (17, .iload_n 2, 18, []), (18, .if_icmp .ge 26, 21, [44]), (21, .iload_n 1, 22, []), (22, .aload_n 0, 23, []), (23, .iload_n 2, 24, []), (24, .iload_n 3, 25, []), (25, .invokevirtual 101, 28, []), (28, .ifCond .eq 7, 31, [35]), (31, .iconst 1, 32, []), (32, .goto 4, 35, [36]), (35, .iconst 0, 36, []), (36, .iadd, 37, []), (37, .istore_n 1, 38, []), (38, .iinc 3 1, 41, []), (41, .goto (-25), 44, [16]), (44, .iinc 2 1, 47, []), (47, .goto (-43), 50, [4]), (50, .iload_n 1, 51, []), (51, .ireturn, 52, [])]
theorem ok_X7_pairs : ∀ x ∈ C_X7_pairs, am_ok cX7_pairs 4 x = true := by decide +kernel
noncomputable def P_X7_pairs : AP := (PF_RX7, PK_RX7, PS_RX7, [(101, 3, F_X7_arePair)], [], [])
noncomputable def g_X7_pairs_16 (k4 : Int32 → Int32 → HP → Option (Int32 × HP))  : Nat → Int32 → Int32 → Int32 → HP → Option (Int32 × HP)
  | 0, _, _, _, _ => none
  | n + 1, a1, a2, a3, h => if a2 ≤ a3 then (k4 a1 (a2 + 1) h) else ((f_X7_arePair a2 a3 h).bind (fun q_1 => if q_1.1 = (0 : Int32) then (g_X7_pairs_16 k4 n (a1 + 0) a2 (a3 + 1) q_1.2) else (g_X7_pairs_16 k4 n (a1 + 1) a2 (a3 + 1) q_1.2)))
def pk_X7_pairs_16 (k : Int32 → Int32 → Int32 → HP → Option (Int32 × HP)) : List AV → List AV → HP → Option (Int32 × HP) := fun L st h => match L, st with
  | [.inr (.inr (.inl (7, 0))), .inl a1, .inl a2, .inl a3], [] => k a1 a2 a3 h
  | _, _ => none
theorem pk_X7_pairs_16_ok {Wp : List AV → List AV → HP → Prop} {r : (Int32 × HP)} {k : Int32 → Int32 → Int32 → HP → Option (Int32 × HP)} (hk : ∀ (a1 : Int32) (a2 : Int32) (a3 : Int32) (h : HP), k a1 a2 a3 h = some r → Wp [.inr (.inr (.inl (7, 0))), .inl a1, .inl a2, .inl a3] [] h) : ∀ L st h, pk_X7_pairs_16 k L st h = some r → Wp L st h := by
  intro L st h q
  unfold pk_X7_pairs_16 at q
  split at q
  · exact hk _ _ _ _ q
  · cases q
noncomputable def g_X7_pairs_4  : Nat → Int32 → Int32 → HP → Option (Int32 × HP)
  | 0, _, _, _ => none
  | n + 1, a1, a2, h => (am_ix (2 : Int32) 64).bind (fun k_1 => if h_rI h 13 0 k_1 ≤ a2 then (some (a1, h)) else (g_X7_pairs_16 (g_X7_pairs_4 n) am_fu a1 a2 0 h))
def pk_X7_pairs_4 (k : Int32 → Int32 → HP → Option (Int32 × HP)) : List AV → List AV → HP → Option (Int32 × HP) := fun L st h => match L, st with
  | [.inr (.inr (.inl (7, 0))), .inl a1, .inl a2, _], [] => k a1 a2 h
  | _, _ => none
theorem pk_X7_pairs_4_ok {Wp : List AV → List AV → HP → Prop} {r : (Int32 × HP)} {k : Int32 → Int32 → HP → Option (Int32 × HP)} (hk : ∀ (a1 : Int32) (a2 : Int32) (w1 : AV) (h : HP), k a1 a2 h = some r → Wp [.inr (.inr (.inl (7, 0))), .inl a1, .inl a2, w1] [] h) : ∀ L st h, pk_X7_pairs_4 k L st h = some r → Wp L st h := by
  intro L st h q
  unfold pk_X7_pairs_4 at q
  split at q
  · exact hk _ _ _ _ q
  · cases q
noncomputable def f_X7_pairs  (h : HP) : Option (Int32 × HP) := g_X7_pairs_4 am_fu 0 0 h
noncomputable def fl_X7_pairs : List AV → HP → Option (Int32 × HP) := fun as h => match as with
  | [.inr (.inr (.inl (7, 0)))] => f_X7_pairs h
  | _ => none
noncomputable def F_X7_pairs : AF := .inl fl_X7_pairs
set_option maxRecDepth 20000 in
theorem w_X7_pairs_16 {p : Program} {l : Launch} {e : Env} {R : Room} {s : State} {m : MethodId} {args : Array Value} {below : List Frame} {meth : Method} {c : Code} {cells slots : Nat} {G : AG} {Q : (Int32 × HP) → State → Prop} (CX : am_X p l e R s m args below meth c cells slots G 4 cX7_pairs RX7 am_tb P_X7_pairs am_rI Q) {r : (Int32 × HP)} {k4 : Int32 → Int32 → HP → Option (Int32 × HP)} (hk4 : ∀ (a1 : Int32) (a2 : Int32) (w1 : AV) (h : HP), k4 a1 a2 h = some r → am_W p l e R s m args below meth c cells slots G 4 (Q r) 4 [.inr (.inr (.inl (7, 0))), .inl a1, .inl a2, w1] [] h) : ∀ (n : Nat) (a1 : Int32) (a2 : Int32) (a3 : Int32) (h : HP), g_X7_pairs_16 k4 n a1 a2 a3 h = some r → am_W p l e R s m args below meth c cells slots G 4 (Q r) 16 [.inr (.inr (.inl (7, 0))), .inl a1, .inl a2, .inl a3] [] h := by
  intro n
  induction n with
  | zero =>
    intro a1 a2 a3 h q
    have q9 : (none : Option (Int32 × HP)) = some r := q
    cases q9
  | succ n ih =>
    intro a1 a2 a3 h q
    exact am_run_ok CX ok_X7_pairs (K := [(4, pk_X7_pairs_4 (k4)), (16, pk_X7_pairs_16 (g_X7_pairs_16 k4 n))]) (am_K1 (Wp := am_W p l e R s m args below meth c cells slots G 4 (Q r)) (pk_X7_pairs_4_ok (Wp := am_W p l e R s m args below meth c cells slots G 4 (Q r) 4) hk4) (am_K1 (Wp := am_W p l e R s m args below meth c cells slots G 4 (Q r)) (pk_X7_pairs_16_ok (Wp := am_W p l e R s m args below meth c cells slots G 4 (Q r) 16) ih) am_K0)) 18 16 _ _ _ q
set_option maxRecDepth 20000 in
theorem w_X7_pairs_4 {p : Program} {l : Launch} {e : Env} {R : Room} {s : State} {m : MethodId} {args : Array Value} {below : List Frame} {meth : Method} {c : Code} {cells slots : Nat} {G : AG} {Q : (Int32 × HP) → State → Prop} (CX : am_X p l e R s m args below meth c cells slots G 4 cX7_pairs RX7 am_tb P_X7_pairs am_rI Q) {r : (Int32 × HP)} : ∀ (n : Nat) (a1 : Int32) (a2 : Int32) (w1 : AV) (h : HP), g_X7_pairs_4 n a1 a2 h = some r → am_W p l e R s m args below meth c cells slots G 4 (Q r) 4 [.inr (.inr (.inl (7, 0))), .inl a1, .inl a2, w1] [] h := by
  intro n
  induction n with
  | zero =>
    intro a1 a2 w1 h q
    have q9 : (none : Option (Int32 × HP)) = some r := q
    cases q9
  | succ n ih =>
    intro a1 a2 w1 h q
    exact am_run_ok CX ok_X7_pairs (K := [(16, pk_X7_pairs_16 (g_X7_pairs_16 (g_X7_pairs_4 n) am_fu))]) (am_K1 (Wp := am_W p l e R s m args below meth c cells slots G 4 (Q r)) (pk_X7_pairs_16_ok (Wp := am_W p l e R s m args below meth c cells slots G 4 (Q r) 16) (w_X7_pairs_16 CX ih am_fu)) am_K0) 11 4 _ _ _ q
set_option maxRecDepth 20000 in
theorem b_X7_pairs (l : Launch) (G : AG) : am_B l G 4 cX7_pairs RX7 am_tb P_X7_pairs am_rI fl_X7_pairs := by
  intro p e R s m args below meth c cells slots Q CX as h r q
  unfold fl_X7_pairs at q
  split at q
  · exact am_run_ok CX ok_X7_pairs (K := [(4, pk_X7_pairs_4 (g_X7_pairs_4 am_fu))]) (am_K1 (Wp := am_W p l e R s m args below meth c cells slots G 4 (Q r)) (pk_X7_pairs_4_ok (Wp := am_W p l e R s m args below meth c cells slots G 4 (Q r) 4) (w_X7_pairs_4 CX am_fu)) am_K0) 7 0 _ _ _ q
  · cases q
theorem s_X7_pairs : ∀ as h x, fl_X7_pairs as h = some x → (∀ k, (some 7 : Option Nat) = some k → ∃ (j : Nat) (as' : List AV), as = .inr (.inr (.inl (k, j))) :: as') ∧ (am_l0 as).length ≤ 4 := by
  intro as h x q
  unfold fl_X7_pairs at q
  split at q
  · exact ⟨fun k e => by cases e; exact ⟨_, _, rfl⟩, Nat.le_of_ble_eq_true rfl⟩
  · cases q
theorem M_X7_pairs (l : Launch) (G : AG) : am_M l G yX7_pairs cX7_pairs 4 (some .int) 2 48 (some 7) F_X7_pairs := am_M_of (f := fl_X7_pairs) (toR := fun x => (some (.inl x.1), x.2)) (P := P_X7_pairs) (Rr := am_rI) (own := RX7) (by decide) rfl (fun _ _ => rfl) s_X7_pairs am_wrI am_rkI pf_RX7 pk_RX7 ps_RX7 (List.forall_mem_cons.mpr ⟨cv_RX7_101 l G (by decide) (by decide), (fun _ q => by cases q)⟩) (fun _ q => by cases q) (fun _ q => by cases q) (b_X7_pairs l G)
theorem cv_RX7_290 (l : Launch) (G : AG) {fr lo : Nat} (h1 : 2 + 1 ≤ fr) (h2 : 8 + (4 + 11) + 48 ≤ lo) : am_cvOK l G RX7 fr lo (290, 1, F_X7_pairs) := ⟨yX7_pairs, cX7_pairs, 4, (some .int), 2, 48, 7, RX7, M_X7_pairs l G, ⟨(am_tb_mem (wd_26 _ (List.mem_of_getElem? (i := 0) rfl))), (am_tb_mem (wd_26 _ (List.mem_of_getElem? (i := 1) rfl))), (am_tb_mem (wd_1 _ (List.mem_of_getElem? (i := 18) rfl))), (am_tb_mem (wd_1 _ (List.mem_of_getElem? (i := 26) rfl))), (am_tb_mem (wd_26 _ (List.mem_of_getElem? (i := 2) rfl)))⟩, ⟨rfl, by decide, by decide, by decide +kernel⟩, Or.inl ⟨by decide, rfl⟩, h1, h2⟩
def C_X7_count : List AC := [(0, .iload_n 1, 1, []), (1, .tableswitch 55 0 3 #[31, 38, 43, 50], 32, [56, 32, 39, 44, 51]), (32, .aload_n 0, 33, []), (33, .getfield 7, 36, []), (36, .iconst 2, 37, []), (37, .iaload, 38, []), (38, .ireturn, 39, []), (39, .aload_n 0, 40, []), (40, .getfield 172, 43, []), (43, .ireturn, 44, []), (44, .aload_n 0, 45, []), (45, .getfield 7, 48, []), (48, .iconst 3, 49, []), (49, .iaload, 50, []), (50, .ireturn, 51, []), (51, .aload_n 0, 52, []), (52, .invokevirtual 290, 55, []), (55, .ireturn, 56, []), (56, .aload_n 0, 57, []), (57, .ldc 41, 59, []), (59, .invokevirtual 78, 62, []), (62, .ireturn, 63, [])]
theorem ok_X7_count : ∀ x ∈ C_X7_count, am_ok cX7_count 2 x = true := by decide +kernel
noncomputable def P_X7_count : AP := (PF_RX7, PK_RX7, PS_RX7, [(78, 2, F_X7_finds), (290, 1, F_X7_pairs)], [], [])
noncomputable def f_X7_count (a1 : Int32) (h : HP) : Option (Int32 × HP) := if a1 = 0 then ((am_ix (2 : Int32) 64).bind (fun k_1 => some (h_rI h 13 0 k_1, h))) else (if a1 = 1 then (some (h_rI h 7 0 4, h)) else (if a1 = 2 then ((am_ix (3 : Int32) 64).bind (fun k_2 => some (h_rI h 13 0 k_2, h))) else (if a1 = 3 then ((f_X7_pairs h).bind (fun q_3 => some (q_3.1, q_3.2))) else ((f_X7_finds ((-1000000001)) h).bind (fun q_4 => some (q_4.1, q_4.2))))))
noncomputable def fl_X7_count : List AV → HP → Option (Int32 × HP) := fun as h => match as with
  | [.inr (.inr (.inl (7, 0))), .inl a1] => f_X7_count a1 h
  | _ => none
noncomputable def F_X7_count : AF := .inl fl_X7_count
set_option maxRecDepth 20000 in
theorem b_X7_count (l : Launch) (G : AG) : am_B l G 2 cX7_count RX7 am_tb P_X7_count am_rI fl_X7_count := by
  intro p e R s m args below meth c cells slots Q CX as h r q
  unfold fl_X7_count at q
  split at q
  · exact am_run_ok CX ok_X7_count (K := []) (am_K0 (Wp := am_W p l e R s m args below meth c cells slots G 2 (Q r))) 10 0 _ _ _ q
  · cases q
theorem s_X7_count : ∀ as h x, fl_X7_count as h = some x → (∀ k, (some 7 : Option Nat) = some k → ∃ (j : Nat) (as' : List AV), as = .inr (.inr (.inl (k, j))) :: as') ∧ (am_l0 as).length ≤ 2 := by
  intro as h x q
  unfold fl_X7_count at q
  split at q
  · exact ⟨fun k e => by cases e; exact ⟨_, _, rfl⟩, Nat.le_of_ble_eq_true rfl⟩
  · cases q
theorem M_X7_count (l : Launch) (G : AG) : am_M l G yX7_count cX7_count 2 (some .int) 3 71 (some 7) F_X7_count := am_M_of (f := fl_X7_count) (toR := fun x => (some (.inl x.1), x.2)) (P := P_X7_count) (Rr := am_rI) (own := RX7) (by decide) rfl (fun _ _ => rfl) s_X7_count am_wrI am_rkI pf_RX7 pk_RX7 ps_RX7 (List.forall_mem_cons.mpr ⟨cv_RX7_78 l G (by decide) (by decide), (List.forall_mem_cons.mpr ⟨cv_RX7_290 l G (by decide) (by decide), (fun _ q => by cases q)⟩)⟩) (fun _ q => by cases q) (fun _ q => by cases q) (b_X7_count l G)
def C_X7_status : List AC := [(0, .iload_n 1, 1, []), (1, .iconst (-1), 2, []), (2, .bipush 6, 4, []), (4, .invokestatic 42, 7, []), (7, .ifCond .ne 10, 10, [17]), (10, .aload_n 0, 11, []), (11, .ldc 41, 13, []), (13, .invokevirtual 78, 16, []), (16, .ireturn, 17, []), (17, .iconst 0, 18, []), (18, .istore_n 2, 19, []), (19, .iconst 0, 20, []), (20, .istore_n 3, 21, []), (21, .iload_n 3, 22, []), (22, .bipush 7, 24, []), (24, .if_icmp .ge 18, 27, [42]), (27, .iload_n 2, 28, []), (28, .aload_n 0, 29, []), (29, .getfield 13, 32, []), (32, .iload_n 3, 33, []), (33, .iaload, 34, []), (34, .iadd, 35, []), (35, .istore_n 2, 36, []), (36, .iinc 3 1, 39, []), (39, .goto (-18), 42, [21]), (42, .iload_n 1, 43, []), (43, .ifCond .ge 7, 46, [50]), (46, .iload_n 2, 47, []), (47, .goto 17, 50, [64]), (50, .aload_n 0, 51, []), (51, .getfield 13, 54, []), (54, .iload_n 1, 55, []), (55, .ifCond .ge 7, 58, [62]), (58, .iconst 0, 59, []), (59, .goto 4, 62, [63]), (62, .iload_n 1, 63, []), (63, .iaload, 64, []), (64, .ireturn, 65, [])]
theorem ok_X7_status : ∀ x ∈ C_X7_status, am_ok cX7_status 4 x = true := by decide +kernel
noncomputable def P_X7_status : AP := (PF_RX7, PK_RX7, PS_RX7, [(78, 2, F_X7_finds)], [(42, 3, F_X7_in)], [])
noncomputable def g_X7_status_21  : Nat → Int32 → Int32 → Int32 → HP → Option (Int32 × HP)
  | 0, _, _, _, _ => none
  | n + 1, a1, a2, a3, h => if (7 : Int32) ≤ a3 then (if (0 : Int32) ≤ a1 then (if (0 : Int32) ≤ a1 then ((am_ix a1 7).bind (fun k_1 => some (h_rI h 13 1 k_1, h))) else ((am_ix (0 : Int32) 7).bind (fun k_2 => some (h_rI h 13 1 k_2, h)))) else (some (a2, h))) else ((am_ix a3 7).bind (fun k_3 => g_X7_status_21 n a1 (a2 + (h_rI h 13 1 k_3)) (a3 + 1) h))
def pk_X7_status_21 (k : Int32 → Int32 → Int32 → HP → Option (Int32 × HP)) : List AV → List AV → HP → Option (Int32 × HP) := fun L st h => match L, st with
  | [.inr (.inr (.inl (7, 0))), .inl a1, .inl a2, .inl a3], [] => k a1 a2 a3 h
  | _, _ => none
theorem pk_X7_status_21_ok {Wp : List AV → List AV → HP → Prop} {r : (Int32 × HP)} {k : Int32 → Int32 → Int32 → HP → Option (Int32 × HP)} (hk : ∀ (a1 : Int32) (a2 : Int32) (a3 : Int32) (h : HP), k a1 a2 a3 h = some r → Wp [.inr (.inr (.inl (7, 0))), .inl a1, .inl a2, .inl a3] [] h) : ∀ L st h, pk_X7_status_21 k L st h = some r → Wp L st h := by
  intro L st h q
  unfold pk_X7_status_21 at q
  split at q
  · exact hk _ _ _ _ q
  · cases q
noncomputable def f_X7_status (a1 : Int32) (h : HP) : Option (Int32 × HP) := (f_X7_in a1 ((-1)) 6 h).bind (fun q_1 => if q_1.1 = (0 : Int32) then ((f_X7_finds ((-1000000001)) q_1.2).bind (fun q_2 => some (q_2.1, q_2.2))) else (g_X7_status_21 am_fu a1 0 0 q_1.2))
noncomputable def fl_X7_status : List AV → HP → Option (Int32 × HP) := fun as h => match as with
  | [.inr (.inr (.inl (7, 0))), .inl a1] => f_X7_status a1 h
  | _ => none
noncomputable def F_X7_status : AF := .inl fl_X7_status
set_option maxRecDepth 20000 in
theorem w_X7_status_21 {p : Program} {l : Launch} {e : Env} {R : Room} {s : State} {m : MethodId} {args : Array Value} {below : List Frame} {meth : Method} {c : Code} {cells slots : Nat} {G : AG} {Q : (Int32 × HP) → State → Prop} (CX : am_X p l e R s m args below meth c cells slots G 4 cX7_status RX7 am_tb P_X7_status am_rI Q) {r : (Int32 × HP)} : ∀ (n : Nat) (a1 : Int32) (a2 : Int32) (a3 : Int32) (h : HP), g_X7_status_21 n a1 a2 a3 h = some r → am_W p l e R s m args below meth c cells slots G 4 (Q r) 21 [.inr (.inr (.inl (7, 0))), .inl a1, .inl a2, .inl a3] [] h := by
  intro n
  induction n with
  | zero =>
    intro a1 a2 a3 h q
    have q9 : (none : Option (Int32 × HP)) = some r := q
    cases q9
  | succ n ih =>
    intro a1 a2 a3 h q
    exact am_run_ok CX ok_X7_status (K := [(21, pk_X7_status_21 (g_X7_status_21 n))]) (am_K1 (Wp := am_W p l e R s m args below meth c cells slots G 4 (Q r)) (pk_X7_status_21_ok (Wp := am_W p l e R s m args below meth c cells slots G 4 (Q r) 21) ih) am_K0) 16 21 _ _ _ q
set_option maxRecDepth 20000 in
theorem b_X7_status (l : Launch) (G : AG) : am_B l G 4 cX7_status RX7 am_tb P_X7_status am_rI fl_X7_status := by
  intro p e R s m args below meth c cells slots Q CX as h r q
  unfold fl_X7_status at q
  split at q
  · exact am_run_ok CX ok_X7_status (K := [(21, pk_X7_status_21 (g_X7_status_21 am_fu))]) (am_K1 (Wp := am_W p l e R s m args below meth c cells slots G 4 (Q r)) (pk_X7_status_21_ok (Wp := am_W p l e R s m args below meth c cells slots G 4 (Q r) 21) (w_X7_status_21 CX am_fu)) am_K0) 12 0 _ _ _ q
  · cases q
theorem s_X7_status : ∀ as h x, fl_X7_status as h = some x → (∀ k, (some 7 : Option Nat) = some k → ∃ (j : Nat) (as' : List AV), as = .inr (.inr (.inl (k, j))) :: as') ∧ (am_l0 as).length ≤ 4 := by
  intro as h x q
  unfold fl_X7_status at q
  split at q
  · exact ⟨fun k e => by cases e; exact ⟨_, _, rfl⟩, Nat.le_of_ble_eq_true rfl⟩
  · cases q
theorem M_X7_status (l : Launch) (G : AG) : am_M l G yX7_status cX7_status 4 (some .int) 1 22 (some 7) F_X7_status := am_M_of (f := fl_X7_status) (toR := fun x => (some (.inl x.1), x.2)) (P := P_X7_status) (Rr := am_rI) (own := RX7) (by decide) rfl (fun _ _ => rfl) s_X7_status am_wrI am_rkI pf_RX7 pk_RX7 ps_RX7 (List.forall_mem_cons.mpr ⟨cv_RX7_78 l G (by decide) (by decide), (fun _ q => by cases q)⟩) (List.forall_mem_cons.mpr ⟨cs_RX7_42 l G (by decide) (by decide), (fun _ q => by cases q)⟩) (fun _ q => by cases q) (b_X7_status l G)
