/-! 13.loans2 -/
theorem cv_RX6_212 (l : Launch) (G : AG) {fr lo : Nat} (h1 : 4 + 1 ≤ fr) (h2 : 8 + (7 + 11) + 97 ≤ lo) : am_cvOK l G RX6 fr lo (212, 4, F_X1_turnsTo) := ⟨yX1_turnsTo, cX1_turnsTo, 7, (some .int), 4, 97, 1, RX1, M_X1_turnsTo l G, ⟨(am_tb_mem (wd_10 _ (List.mem_of_getElem? (i := 29) rfl))), (am_tb_mem (wd_10 _ (List.mem_of_getElem? (i := 30) rfl))), (am_tb_mem (wd_10 _ (List.mem_of_getElem? (i := 31) rfl))), (am_tb_mem (wd_1 _ (List.mem_of_getElem? (i := 20) rfl))), (am_tb_mem (wd_10 _ (List.mem_of_getElem? (i := 32) rfl)))⟩, ⟨rfl, by decide, by decide, by decide +kernel⟩, Or.inl ⟨by decide, rfl⟩, h1, h2⟩
def C_X6_way : List AC := [(0, .aload_n 0, 1, []), (1, .getfield 10, 4, []), (4, .iload_n 1, 5, []), (5, .invokevirtual 139, 8, []), (8, .ifCond .eq 10, 11, [18]), (11, .iload_n 2, 12, []), (12, .invokestatic 53, 15, []), (15, .ifCond .ne 10, 18, [25]), (18, .aload_n 0, 19, []), (19, .ldc 56, 21, []), (21, .invokevirtual 57, 24, []), (24, .ireturn, 25, []), (25, .aload_n 0, 26, []), (26, .getfield 10, 29, []), (29, .iload_n 1, 30, []), (30, .aload_n 0, 31, []), (31, .getfield 10, 34, []), (34, .getfield 142, 37, []), (37, .iload_n 1, 38, []), (38, .aaload, 39, []), (39, .getfield 146, 42, []), (42, .iload_n 2, 43, []), (43, .invokevirtual 212, 46, []), (46, .istore_n 3, 47, []), (47, .iload_n 3, 48, []), (48, .iconst (-1), 49, []), (49, .if_icmp .ne 12, 52, [61]), (52, .aload_n 0, 53, []), (53, .ldc 124, 55, []), (55, .invokevirtual 57, 58, []), (58, .goto 4, 61, [62]), (61, .iload_n 3, 62, []), (62, .ireturn, 63, [])]
theorem ok_X6_way : ∀ x ∈ C_X6_way, am_ok cX6_way 4 x = true := by decide +kernel
noncomputable def P_X6_way : AP := (PF_RX6, PK_RX6, PS_RX6, [(57, 2, F_X6_tell), (139, 2, F_X1_hasMember), (212, 4, F_X1_turnsTo)], [(53, 1, F_X6_isRoom)], [])
noncomputable def g_X6_way_18  (h : HP) : Option (Int32 × HP) := (f_X6_tell ((-1000000001)) h).bind (fun q_1 => some (q_1.1, q_1.2))
def pk_X6_way_18 (k : HP → Option (Int32 × HP)) : List AV → List AV → HP → Option (Int32 × HP) := fun L st h => match L, st with
  | [.inr (.inr (.inl (6, 0))), .inl _, .inl _, .inr (.inr (.inr ()))], [] => k h
  | _, _ => none
theorem pk_X6_way_18_ok {Wp : List AV → List AV → HP → Prop} {r : (Int32 × HP)} {k : HP → Option (Int32 × HP)} (hk : ∀ (w1 : Int32) (w2 : Int32) (h : HP), k h = some r → Wp [.inr (.inr (.inl (6, 0))), .inl w1, .inl w2, .inr (.inr (.inr ()))] [] h) : ∀ L st h, pk_X6_way_18 k L st h = some r → Wp L st h := by
  intro L st h q
  unfold pk_X6_way_18 at q
  split at q
  · exact hk _ _ _ q
  · cases q
noncomputable def f_X6_way (a1 : Int32) (a2 : Int32) (h : HP) : Option (Int32 × HP) := (f_X1_hasMember 0 a1 h).bind (fun q_1 => if q_1.1 = (0 : Int32) then (g_X6_way_18 q_1.2) else ((f_X6_isRoom a2 q_1.2).bind (fun q_2 => if q_2.1 = (0 : Int32) then (g_X6_way_18 q_2.2) else ((am_ix a1 6).bind (fun k_3 => (f_X1_turnsTo 0 a1 (h_rI q_2.2 2 (6 * 0 + k_3) 0) a2 q_2.2).bind (fun q_4 => if q_4.1 = ((-1) : Int32) then ((f_X6_tell ((-1000000004)) q_4.2).bind (fun q_5 => some (q_5.1, q_5.2))) else (some (q_4.1, q_4.2))))))))
noncomputable def fl_X6_way : List AV → HP → Option (Int32 × HP) := fun as h => match as with
  | [.inr (.inr (.inl (6, 0))), .inl a1, .inl a2] => f_X6_way a1 a2 h
  | _ => none
noncomputable def F_X6_way : AF := .inl fl_X6_way
set_option maxRecDepth 20000 in
theorem w_X6_way_18 {p : Program} {l : Launch} {e : Env} {R : Room} {s : State} {m : MethodId} {args : Array Value} {below : List Frame} {meth : Method} {c : Code} {cells slots : Nat} {G : AG} {Q : (Int32 × HP) → State → Prop} (CX : am_X p l e R s m args below meth c cells slots G 4 cX6_way RX6 am_tb P_X6_way am_rI Q) {r : (Int32 × HP)} : ∀ (w1 : Int32) (w2 : Int32) (h : HP), g_X6_way_18 h = some r → am_W p l e R s m args below meth c cells slots G 4 (Q r) 18 [.inr (.inr (.inl (6, 0))), .inl w1, .inl w2, .inr (.inr (.inr ()))] [] h := by
  intro w1 w2 h q
  exact am_run_ok CX ok_X6_way (K := []) (am_K0 (Wp := am_W p l e R s m args below meth c cells slots G 4 (Q r))) 7 18 _ _ _ q
set_option maxRecDepth 20000 in
theorem b_X6_way (l : Launch) (G : AG) : am_B l G 4 cX6_way RX6 am_tb P_X6_way am_rI fl_X6_way := by
  intro p e R s m args below meth c cells slots Q CX as h r q
  unfold fl_X6_way at q
  split at q
  · exact am_run_ok CX ok_X6_way (K := [(18, pk_X6_way_18 (g_X6_way_18))]) (am_K1 (Wp := am_W p l e R s m args below meth c cells slots G 4 (Q r)) (pk_X6_way_18_ok (Wp := am_W p l e R s m args below meth c cells slots G 4 (Q r) 18) (w_X6_way_18 CX)) am_K0) 31 0 _ _ _ q
  · cases q
theorem s_X6_way : ∀ as h x, fl_X6_way as h = some x → (∀ k, (some 6 : Option Nat) = some k → ∃ (j : Nat) (as' : List AV), as = .inr (.inr (.inl (k, j))) :: as') ∧ (am_l0 as).length ≤ 4 := by
  intro as h x q
  unfold fl_X6_way at q
  split at q
  · exact ⟨fun k e => by cases e; exact ⟨_, _, rfl⟩, Nat.le_of_ble_eq_true rfl⟩
  · cases q
theorem M_X6_way (l : Launch) (G : AG) : am_M l G yX6_way cX6_way 4 (some .int) 5 123 (some 6) F_X6_way := am_M_of (f := fl_X6_way) (toR := fun x => (some (.inl x.1), x.2)) (P := P_X6_way) (Rr := am_rI) (own := RX6) (by decide) rfl (fun _ _ => rfl) s_X6_way am_wrI am_rkI pf_RX6 pk_RX6 ps_RX6 (List.forall_mem_cons.mpr ⟨cv_RX6_57 l G (by decide) (by decide), (List.forall_mem_cons.mpr ⟨cv_RX6_139 l G (by decide) (by decide), (List.forall_mem_cons.mpr ⟨cv_RX6_212 l G (by decide) (by decide), (fun _ q => by cases q)⟩)⟩)⟩) (List.forall_mem_cons.mpr ⟨cs_RX6_53 l G (by decide) (by decide), (fun _ q => by cases q)⟩) (fun _ q => by cases q) (b_X6_way l G)
theorem cv_RX6_215 (l : Launch) (G : AG) {fr lo : Nat} (h1 : 5 + 1 ≤ fr) (h2 : 8 + (6 + 11) + 123 ≤ lo) : am_cvOK l G RX6 fr lo (215, 3, F_X1_firstOnWay) := ⟨yX1_firstOnWay, cX1_firstOnWay, 6, (some .int), 5, 123, 1, RX1, M_X1_firstOnWay l G, ⟨(am_tb_mem (wd_10 _ (List.mem_of_getElem? (i := 37) rfl))), (am_tb_mem (wd_10 _ (List.mem_of_getElem? (i := 38) rfl))), (am_tb_mem (wd_10 _ (List.mem_of_getElem? (i := 39) rfl))), (am_tb_mem (wd_1 _ (List.mem_of_getElem? (i := 20) rfl))), (am_tb_mem (wd_11 _ (List.mem_of_getElem? (i := 0) rfl)))⟩, ⟨rfl, by decide, by decide, by decide +kernel⟩, Or.inl ⟨by decide, rfl⟩, h1, h2⟩
def C_X6_next : List AC := [(0, .aload_n 0, 1, []), (1, .getfield 10, 4, []), (4, .iload_n 1, 5, []), (5, .invokevirtual 139, 8, []), (8, .ifCond .eq 10, 11, [18]), (11, .iload_n 2, 12, []), (12, .invokestatic 53, 15, []), (15, .ifCond .ne 10, 18, [25]), (18, .aload_n 0, 19, []), (19, .ldc 56, 21, []), (21, .invokevirtual 57, 24, []), (24, .ireturn, 25, []), (25, .aload_n 0, 26, []), (26, .getfield 10, 29, []), (29, .getfield 142, 32, []), (32, .iload_n 1, 33, []), (33, .aaload, 34, []), (34, .getfield 146, 37, []), (37, .iload_n 2, 38, []), (38, .if_icmp .ne 10, 41, [48]), (41, .aload_n 0, 42, []), (42, .ldc 163, 44, []), (44, .invokevirtual 57, 47, []), (47, .ireturn, 48, []), (48, .aload_n 0, 49, []), (49, .getfield 10, 52, []), (52, .iload_n 1, 53, []), (53, .iload_n 2, 54, []), (54, .invokevirtual 215, 57, []), (57, .istore_n 3, 58, []), (58, .iload_n 3, 59, []), (59, .iconst (-1), 60, []), (60, .if_icmp .ne 12, 63, [72]), (63, .aload_n 0, 64, []), (64, .ldc 124, 66, []), (66, .invokevirtual 57, 69, []), (69, .goto 4, 72, [73]), (72, .iload_n 3, 73, []), (73, .ireturn, 74, [])]
theorem ok_X6_next : ∀ x ∈ C_X6_next, am_ok cX6_next 4 x = true := by decide +kernel
noncomputable def P_X6_next : AP := (PF_RX6, PK_RX6, PS_RX6, [(57, 2, F_X6_tell), (139, 2, F_X1_hasMember), (215, 3, F_X1_firstOnWay)], [(53, 1, F_X6_isRoom)], [])
noncomputable def g_X6_next_18  (h : HP) : Option (Int32 × HP) := (f_X6_tell ((-1000000001)) h).bind (fun q_1 => some (q_1.1, q_1.2))
def pk_X6_next_18 (k : HP → Option (Int32 × HP)) : List AV → List AV → HP → Option (Int32 × HP) := fun L st h => match L, st with
  | [.inr (.inr (.inl (6, 0))), .inl _, .inl _, .inr (.inr (.inr ()))], [] => k h
  | _, _ => none
theorem pk_X6_next_18_ok {Wp : List AV → List AV → HP → Prop} {r : (Int32 × HP)} {k : HP → Option (Int32 × HP)} (hk : ∀ (w1 : Int32) (w2 : Int32) (h : HP), k h = some r → Wp [.inr (.inr (.inl (6, 0))), .inl w1, .inl w2, .inr (.inr (.inr ()))] [] h) : ∀ L st h, pk_X6_next_18 k L st h = some r → Wp L st h := by
  intro L st h q
  unfold pk_X6_next_18 at q
  split at q
  · exact hk _ _ _ q
  · cases q
noncomputable def f_X6_next (a1 : Int32) (a2 : Int32) (h : HP) : Option (Int32 × HP) := (f_X1_hasMember 0 a1 h).bind (fun q_1 => if q_1.1 = (0 : Int32) then (g_X6_next_18 q_1.2) else ((f_X6_isRoom a2 q_1.2).bind (fun q_2 => if q_2.1 = (0 : Int32) then (g_X6_next_18 q_2.2) else ((am_ix a1 6).bind (fun k_3 => if h_rI q_2.2 2 (6 * 0 + k_3) 0 = a2 then ((f_X6_tell ((-1000000005)) q_2.2).bind (fun q_6 => some (q_6.1, q_6.2))) else ((f_X1_firstOnWay 0 a1 a2 q_2.2).bind (fun q_4 => if q_4.1 = ((-1) : Int32) then ((f_X6_tell ((-1000000004)) q_4.2).bind (fun q_5 => some (q_5.1, q_5.2))) else (some (q_4.1, q_4.2)))))))))
noncomputable def fl_X6_next : List AV → HP → Option (Int32 × HP) := fun as h => match as with
  | [.inr (.inr (.inl (6, 0))), .inl a1, .inl a2] => f_X6_next a1 a2 h
  | _ => none
noncomputable def F_X6_next : AF := .inl fl_X6_next
set_option maxRecDepth 20000 in
theorem w_X6_next_18 {p : Program} {l : Launch} {e : Env} {R : Room} {s : State} {m : MethodId} {args : Array Value} {below : List Frame} {meth : Method} {c : Code} {cells slots : Nat} {G : AG} {Q : (Int32 × HP) → State → Prop} (CX : am_X p l e R s m args below meth c cells slots G 4 cX6_next RX6 am_tb P_X6_next am_rI Q) {r : (Int32 × HP)} : ∀ (w1 : Int32) (w2 : Int32) (h : HP), g_X6_next_18 h = some r → am_W p l e R s m args below meth c cells slots G 4 (Q r) 18 [.inr (.inr (.inl (6, 0))), .inl w1, .inl w2, .inr (.inr (.inr ()))] [] h := by
  intro w1 w2 h q
  exact am_run_ok CX ok_X6_next (K := []) (am_K0 (Wp := am_W p l e R s m args below meth c cells slots G 4 (Q r))) 7 18 _ _ _ q
set_option maxRecDepth 20000 in
theorem b_X6_next (l : Launch) (G : AG) : am_B l G 4 cX6_next RX6 am_tb P_X6_next am_rI fl_X6_next := by
  intro p e R s m args below meth c cells slots Q CX as h r q
  unfold fl_X6_next at q
  split at q
  · exact am_run_ok CX ok_X6_next (K := [(18, pk_X6_next_18 (g_X6_next_18))]) (am_K1 (Wp := am_W p l e R s m args below meth c cells slots G 4 (Q r)) (pk_X6_next_18_ok (Wp := am_W p l e R s m args below meth c cells slots G 4 (Q r) 18) (w_X6_next_18 CX)) am_K0) 33 0 _ _ _ q
  · cases q
theorem s_X6_next : ∀ as h x, fl_X6_next as h = some x → (∀ k, (some 6 : Option Nat) = some k → ∃ (j : Nat) (as' : List AV), as = .inr (.inr (.inl (k, j))) :: as') ∧ (am_l0 as).length ≤ 4 := by
  intro as h x q
  unfold fl_X6_next at q
  split at q
  · exact ⟨fun k e => by cases e; exact ⟨_, _, rfl⟩, Nat.le_of_ble_eq_true rfl⟩
  · cases q
theorem M_X6_next (l : Launch) (G : AG) : am_M l G yX6_next cX6_next 4 (some .int) 6 148 (some 6) F_X6_next := am_M_of (f := fl_X6_next) (toR := fun x => (some (.inl x.1), x.2)) (P := P_X6_next) (Rr := am_rI) (own := RX6) (by decide) rfl (fun _ _ => rfl) s_X6_next am_wrI am_rkI pf_RX6 pk_RX6 ps_RX6 (List.forall_mem_cons.mpr ⟨cv_RX6_57 l G (by decide) (by decide), (List.forall_mem_cons.mpr ⟨cv_RX6_139 l G (by decide) (by decide), (List.forall_mem_cons.mpr ⟨cv_RX6_215 l G (by decide) (by decide), (fun _ q => by cases q)⟩)⟩)⟩) (List.forall_mem_cons.mpr ⟨cs_RX6_53 l G (by decide) (by decide), (fun _ q => by cases q)⟩) (fun _ q => by cases q) (b_X6_next l G)
theorem cv_RX6_218 (l : Launch) (G : AG) {fr lo : Nat} (h1 : 5 + 1 ≤ fr) (h2 : 8 + (3 + 11) + 121 ≤ lo) : am_cvOK l G RX6 fr lo (218, 3, F_X1_canCome) := ⟨yX1_canCome, cX1_canCome, 3, (some .boolean), 5, 121, 1, RX1, M_X1_canCome l G, ⟨(am_tb_mem (wd_11 _ (List.mem_of_getElem? (i := 7) rfl))), (am_tb_mem (wd_11 _ (List.mem_of_getElem? (i := 8) rfl))), (am_tb_mem (wd_11 _ (List.mem_of_getElem? (i := 9) rfl))), (am_tb_mem (wd_1 _ (List.mem_of_getElem? (i := 20) rfl))), (am_tb_mem (wd_11 _ (List.mem_of_getElem? (i := 10) rfl)))⟩, ⟨rfl, by decide, by decide, by decide +kernel⟩, Or.inl ⟨by decide, rfl⟩, h1, h2⟩
theorem cv_RX6_221 (l : Launch) (G : AG) {fr lo : Nat} (h1 : 5 + 1 ≤ fr) (h2 : 8 + (6 + 11) + 121 ≤ lo) : am_cvOK l G RX6 fr lo (221, 4, F_X1_firstWanted) := ⟨yX1_firstWanted, cX1_firstWanted, 6, (some .int), 5, 121, 1, RX1, M_X1_firstWanted l G, ⟨(am_tb_mem (wd_11 _ (List.mem_of_getElem? (i := 12) rfl))), (am_tb_mem (wd_11 _ (List.mem_of_getElem? (i := 13) rfl))), (am_tb_mem (wd_11 _ (List.mem_of_getElem? (i := 14) rfl))), (am_tb_mem (wd_1 _ (List.mem_of_getElem? (i := 20) rfl))), (am_tb_mem (wd_11 _ (List.mem_of_getElem? (i := 15) rfl)))⟩, ⟨rfl, by decide, by decide, by decide +kernel⟩, Or.inl ⟨by decide, rfl⟩, h1, h2⟩
def C_X6_wanted : List AC := [(0, .aload_n 0, 1, []), (1, .getfield 10, 4, []), (4, .iload_n 1, 5, []), (5, .invokevirtual 139, 8, []), (8, .ifCond .eq 10, 11, [18]), (11, .iload_n 2, 12, []), (12, .invokestatic 53, 15, []), (15, .ifCond .ne 10, 18, [25]), (18, .aload_n 0, 19, []), (19, .ldc 56, 21, []), (21, .invokevirtual 57, 24, []), (24, .ireturn, 25, []), (25, .aload_n 0, 26, []), (26, .getfield 10, 29, []), (29, .iload_n 1, 30, []), (30, .iload_n 2, 31, []), (31, .invokevirtual 218, 34, []), (34, .ifCond .eq 10, 37, [44]), (37, .aload_n 0, 38, []), (38, .ldc 163, 40, []), (40, .invokevirtual 57, 43, []), (43, .ireturn, 44, []), (44, .aload_n 0, 45, []), (45, .getfield 16, 48, []), (48, .aload_n 0, 49, []), (49, .getfield 10, 52, []), (52, .invokevirtual 200, 55, []), (55, .aload_n 0, 56, []), (56, .getfield 16, 59, []), (59, .iload_n 1, 60, []), (60, .iload_n 2, 61, []), (61, .iconst 0, 62, []), (62, .invokevirtual 221, 65, []), (65, .istore_n 3, 66, []), (66, .iload_n 3, 67, []), (67, .iconst (-1), 68, []), (68, .if_icmp .ne 12, 71, [80]), (71, .aload_n 0, 72, []), (72, .ldc 124, 74, []), (74, .invokevirtual 57, 77, []), (77, .goto 4, 80, [81]), (80, .iload_n 3, 81, []), (81, .ireturn, 82, [])]
theorem ok_X6_wanted : ∀ x ∈ C_X6_wanted, am_ok cX6_wanted 4 x = true := by decide +kernel
noncomputable def P_X6_wanted : AP := (PF_RX6, PK_RX6, PS_RX6, [(57, 2, F_X6_tell), (139, 2, F_X1_hasMember), (200, 2, F_X1_becomes), (218, 3, F_X1_canCome), (221, 4, F_X1_firstWanted)], [(53, 1, F_X6_isRoom)], [])
noncomputable def g_X6_wanted_18  (h : HP) : Option (Int32 × HP) := (f_X6_tell ((-1000000001)) h).bind (fun q_1 => some (q_1.1, q_1.2))
def pk_X6_wanted_18 (k : HP → Option (Int32 × HP)) : List AV → List AV → HP → Option (Int32 × HP) := fun L st h => match L, st with
  | [.inr (.inr (.inl (6, 0))), .inl _, .inl _, .inr (.inr (.inr ()))], [] => k h
  | _, _ => none
theorem pk_X6_wanted_18_ok {Wp : List AV → List AV → HP → Prop} {r : (Int32 × HP)} {k : HP → Option (Int32 × HP)} (hk : ∀ (w1 : Int32) (w2 : Int32) (h : HP), k h = some r → Wp [.inr (.inr (.inl (6, 0))), .inl w1, .inl w2, .inr (.inr (.inr ()))] [] h) : ∀ L st h, pk_X6_wanted_18 k L st h = some r → Wp L st h := by
  intro L st h q
  unfold pk_X6_wanted_18 at q
  split at q
  · exact hk _ _ _ q
  · cases q
noncomputable def f_X6_wanted (a1 : Int32) (a2 : Int32) (h : HP) : Option (Int32 × HP) := (f_X1_hasMember 0 a1 h).bind (fun q_1 => if q_1.1 = (0 : Int32) then (g_X6_wanted_18 q_1.2) else ((f_X6_isRoom a2 q_1.2).bind (fun q_2 => if q_2.1 = (0 : Int32) then (g_X6_wanted_18 q_2.2) else ((f_X1_canCome 0 a1 a2 q_2.2).bind (fun q_3 => if q_3.1 = (0 : Int32) then ((f_X1_becomes 1 0 q_3.2).bind (fun q_4 => (f_X1_firstWanted 1 a1 a2 0 q_4).bind (fun q_5 => if q_5.1 = ((-1) : Int32) then ((f_X6_tell ((-1000000004)) q_5.2).bind (fun q_6 => some (q_6.1, q_6.2))) else (some (q_5.1, q_5.2))))) else ((f_X6_tell ((-1000000005)) q_3.2).bind (fun q_7 => some (q_7.1, q_7.2))))))))
noncomputable def fl_X6_wanted : List AV → HP → Option (Int32 × HP) := fun as h => match as with
  | [.inr (.inr (.inl (6, 0))), .inl a1, .inl a2] => f_X6_wanted a1 a2 h
  | _ => none
noncomputable def F_X6_wanted : AF := .inl fl_X6_wanted
set_option maxRecDepth 20000 in
theorem w_X6_wanted_18 {p : Program} {l : Launch} {e : Env} {R : Room} {s : State} {m : MethodId} {args : Array Value} {below : List Frame} {meth : Method} {c : Code} {cells slots : Nat} {G : AG} {Q : (Int32 × HP) → State → Prop} (CX : am_X p l e R s m args below meth c cells slots G 4 cX6_wanted RX6 am_tb P_X6_wanted am_rI Q) {r : (Int32 × HP)} : ∀ (w1 : Int32) (w2 : Int32) (h : HP), g_X6_wanted_18 h = some r → am_W p l e R s m args below meth c cells slots G 4 (Q r) 18 [.inr (.inr (.inl (6, 0))), .inl w1, .inl w2, .inr (.inr (.inr ()))] [] h := by
  intro w1 w2 h q
  exact am_run_ok CX ok_X6_wanted (K := []) (am_K0 (Wp := am_W p l e R s m args below meth c cells slots G 4 (Q r))) 7 18 _ _ _ q
set_option maxRecDepth 20000 in
theorem b_X6_wanted (l : Launch) (G : AG) : am_B l G 4 cX6_wanted RX6 am_tb P_X6_wanted am_rI fl_X6_wanted := by
  intro p e R s m args below meth c cells slots Q CX as h r q
  unfold fl_X6_wanted at q
  split at q
  · exact am_run_ok CX ok_X6_wanted (K := [(18, pk_X6_wanted_18 (g_X6_wanted_18))]) (am_K1 (Wp := am_W p l e R s m args below meth c cells slots G 4 (Q r)) (pk_X6_wanted_18_ok (Wp := am_W p l e R s m args below meth c cells slots G 4 (Q r) 18) (w_X6_wanted_18 CX)) am_K0) 37 0 _ _ _ q
  · cases q
theorem s_X6_wanted : ∀ as h x, fl_X6_wanted as h = some x → (∀ k, (some 6 : Option Nat) = some k → ∃ (j : Nat) (as' : List AV), as = .inr (.inr (.inl (k, j))) :: as') ∧ (am_l0 as).length ≤ 4 := by
  intro as h x q
  unfold fl_X6_wanted at q
  split at q
  · exact ⟨fun k e => by cases e; exact ⟨_, _, rfl⟩, Nat.le_of_ble_eq_true rfl⟩
  · cases q
theorem M_X6_wanted (l : Launch) (G : AG) : am_M l G yX6_wanted cX6_wanted 4 (some .int) 6 146 (some 6) F_X6_wanted := am_M_of (f := fl_X6_wanted) (toR := fun x => (some (.inl x.1), x.2)) (P := P_X6_wanted) (Rr := am_rI) (own := RX6) (by decide) rfl (fun _ _ => rfl) s_X6_wanted am_wrI am_rkI pf_RX6 pk_RX6 ps_RX6 (List.forall_mem_cons.mpr ⟨cv_RX6_57 l G (by decide) (by decide), (List.forall_mem_cons.mpr ⟨cv_RX6_139 l G (by decide) (by decide), (List.forall_mem_cons.mpr ⟨cv_RX6_200 l G (by decide) (by decide), (List.forall_mem_cons.mpr ⟨cv_RX6_218 l G (by decide) (by decide), (List.forall_mem_cons.mpr ⟨cv_RX6_221 l G (by decide) (by decide), (fun _ q => by cases q)⟩)⟩)⟩)⟩)⟩) (List.forall_mem_cons.mpr ⟨cs_RX6_53 l G (by decide) (by decide), (fun _ q => by cases q)⟩) (fun _ q => by cases q) (b_X6_wanted l G)
theorem cv_RX6_227 (l : Launch) (G : AG) {fr lo : Nat} (h1 : 4 + 1 ≤ fr) (h2 : 8 + (3 + 11) + 87 ≤ lo) : am_cvOK l G RX6 fr lo (227, 3, F_X1_mayLend) := ⟨yX1_mayLend, cX1_mayLend, 3, (some .boolean), 4, 87, 1, RX1, M_X1_mayLend l G, ⟨(am_tb_mem (wd_11 _ (List.mem_of_getElem? (i := 26) rfl))), (am_tb_mem (wd_11 _ (List.mem_of_getElem? (i := 17) rfl))), (am_tb_mem (wd_11 _ (List.mem_of_getElem? (i := 18) rfl))), (am_tb_mem (wd_1 _ (List.mem_of_getElem? (i := 20) rfl))), (am_tb_mem (wd_11 _ (List.mem_of_getElem? (i := 19) rfl)))⟩, ⟨rfl, by decide, by decide, by decide +kernel⟩, Or.inl ⟨by decide, rfl⟩, h1, h2⟩
def C_X6_two : List AC := [(0, .aload_n 0, 1, []), (1, .getfield 10, 4, []), (4, .iload_n 1, 5, []), (5, .invokevirtual 139, 8, []), (8, .ifCond .eq 10, 11, [18]), (11, .iload_n 2, 12, []), (12, .invokestatic 53, 15, []), (15, .ifCond .ne 10, 18, [25]), (18, .aload_n 0, 19, []), (19, .ldc 56, 21, []), (21, .invokevirtual 57, 24, []), (24, .ireturn, 25, []), (25, .aload_n 0, 26, []), (26, .getfield 10, 29, []), (29, .iload_n 1, 30, []), (30, .iload_n 2, 31, []), (31, .invokevirtual 218, 34, []), (34, .ifCond .eq 10, 37, [44]), (37, .aload_n 0, 38, []), (38, .ldc 163, 40, []), (40, .invokevirtual 57, 43, []), (43, .ireturn, 44, []), (44, .aload_n 0, 45, []), (45, .getfield 16, 48, []), (48, .aload_n 0, 49, []), (49, .getfield 10, 52, []), (52, .invokevirtual 200, 55, []), (55, .iconst 0, 56, []), (56, .istore_n 3, 57, []), (57, .iload_n 3, 58, []), (58, .aload_n 0, 59, []), (59, .getfield 16, 62, []), (62, .getfield 224, 65, []), (65, .if_icmp .ge 75, 68, [140]), (68, .aload_n 0, 69, []), (69, .getfield 16, 72, []), (72, .iload_n 3, 73, []), (73, .iload_n 1, 74, []), (74, .invokevirtual 227, 77, []), (77, .ifCond .eq 57, 80, [134]), (80, .aload_n 0, 81, []), (81, .getfield 16, 84, []), (84, .getfield 73, 87, []), (87, .iload_n 3, 88, []), (88, .aaload, 89, []), (89, .iload_n 1, 90, []), (90, .putfield 92, 93, []), (93, .aload_n 0, 94, []), (94, .getfield 16, 97, []), (97, .iload_n 1, 98, []), (98, .iload_n 2, 99, []), (99, .iload_n 3, 100, []), (100, .iconst 1, 101, []), (101, .iadd, 102, []), (102, .invokevirtual 221, 105, []), (105, .istore 4, 107, []), (107, .aload_n 0, 108, []), (108, .getfield 16, 111, []), (111, .getfield 73, 114, []), (114, .iload_n 3, 115, []), (115, .aaload, 116, []), (116, .iconst (-1), 117, []), (117, .putfield 92, 120, []), (120, .iload 4, 122, []), (122, .iconst (-1), 123, []), (123, .if_icmp .eq 11, 126, [134]), (126, .bipush 10, 128, []), (128, .iload_n 3, 129, []), (129, .imul, 130, []), (130, .iload 4, 132, []), (132, .iadd, 133, []), (133, .ireturn, 134, []), (134, .iinc 3 1, 137, []), (137, .goto (-80), 140, [57]), (140, .aload_n 0, 141, []), (141, .ldc 124, 143, []), (143, .invokevirtual 57, 146, []), (146, .ireturn, 147, [])]
theorem ok_X6_two : ∀ x ∈ C_X6_two, am_ok cX6_two 5 x = true := by decide +kernel
noncomputable def P_X6_two : AP := (PF_RX6, PK_RX6, PS_RX6, [(57, 2, F_X6_tell), (139, 2, F_X1_hasMember), (200, 2, F_X1_becomes), (218, 3, F_X1_canCome), (221, 4, F_X1_firstWanted), (227, 3, F_X1_mayLend)], [(53, 1, F_X6_isRoom)], [])
noncomputable def g_X6_two_57  : Nat → Int32 → Int32 → Int32 → HP → Option (Int32 × HP)
  | 0, _, _, _, _ => none
  | n + 1, a1, a2, a3, h => if h_rI h 1 1 3 ≤ a3 then ((f_X6_tell ((-1000000004)) h).bind (fun q_1 => some (q_1.1, q_1.2))) else ((f_X1_mayLend 1 a3 a1 h).bind (fun q_2 => if q_2.1 = (0 : Int32) then (g_X6_two_57 n a1 a2 (a3 + 1) q_2.2) else ((am_ix a3 8).bind (fun k_3 => (f_X1_firstWanted 1 a1 a2 (a3 + 1) (h_wI q_2.2 0 (8 * 1 + k_3) 4 a1)).bind (fun q_4 => (am_ix a3 8).bind (fun k_5 => if q_4.1 = ((-1) : Int32) then (g_X6_two_57 n a1 a2 (a3 + 1) (h_wI q_4.2 0 (8 * 1 + k_5) 4 ((-1)))) else (some ((10 * a3) + q_4.1, h_wI q_4.2 0 (8 * 1 + k_5) 4 ((-1))))))))))
def pk_X6_two_57 (k : Int32 → Int32 → Int32 → HP → Option (Int32 × HP)) : List AV → List AV → HP → Option (Int32 × HP) := fun L st h => match L, st with
  | [.inr (.inr (.inl (6, 0))), .inl a1, .inl a2, .inl a3, _], [] => k a1 a2 a3 h
  | _, _ => none
theorem pk_X6_two_57_ok {Wp : List AV → List AV → HP → Prop} {r : (Int32 × HP)} {k : Int32 → Int32 → Int32 → HP → Option (Int32 × HP)} (hk : ∀ (a1 : Int32) (a2 : Int32) (a3 : Int32) (w1 : AV) (h : HP), k a1 a2 a3 h = some r → Wp [.inr (.inr (.inl (6, 0))), .inl a1, .inl a2, .inl a3, w1] [] h) : ∀ L st h, pk_X6_two_57 k L st h = some r → Wp L st h := by
  intro L st h q
  unfold pk_X6_two_57 at q
  split at q
  · exact hk _ _ _ _ _ q
  · cases q
noncomputable def g_X6_two_18  (h : HP) : Option (Int32 × HP) := (f_X6_tell ((-1000000001)) h).bind (fun q_1 => some (q_1.1, q_1.2))
def pk_X6_two_18 (k : HP → Option (Int32 × HP)) : List AV → List AV → HP → Option (Int32 × HP) := fun L st h => match L, st with
  | [.inr (.inr (.inl (6, 0))), .inl _, .inl _, .inr (.inr (.inr ())), .inr (.inr (.inr ()))], [] => k h
  | _, _ => none
theorem pk_X6_two_18_ok {Wp : List AV → List AV → HP → Prop} {r : (Int32 × HP)} {k : HP → Option (Int32 × HP)} (hk : ∀ (w1 : Int32) (w2 : Int32) (h : HP), k h = some r → Wp [.inr (.inr (.inl (6, 0))), .inl w1, .inl w2, .inr (.inr (.inr ())), .inr (.inr (.inr ()))] [] h) : ∀ L st h, pk_X6_two_18 k L st h = some r → Wp L st h := by
  intro L st h q
  unfold pk_X6_two_18 at q
  split at q
  · exact hk _ _ _ q
  · cases q
noncomputable def f_X6_two (a1 : Int32) (a2 : Int32) (h : HP) : Option (Int32 × HP) := (f_X1_hasMember 0 a1 h).bind (fun q_1 => if q_1.1 = (0 : Int32) then (g_X6_two_18 q_1.2) else ((f_X6_isRoom a2 q_1.2).bind (fun q_2 => if q_2.1 = (0 : Int32) then (g_X6_two_18 q_2.2) else ((f_X1_canCome 0 a1 a2 q_2.2).bind (fun q_3 => if q_3.1 = (0 : Int32) then ((f_X1_becomes 1 0 q_3.2).bind (fun q_4 => g_X6_two_57 am_fu a1 a2 0 q_4)) else ((f_X6_tell ((-1000000005)) q_3.2).bind (fun q_5 => some (q_5.1, q_5.2))))))))
noncomputable def fl_X6_two : List AV → HP → Option (Int32 × HP) := fun as h => match as with
  | [.inr (.inr (.inl (6, 0))), .inl a1, .inl a2] => f_X6_two a1 a2 h
  | _ => none
noncomputable def F_X6_two : AF := .inl fl_X6_two
set_option maxRecDepth 20000 in
theorem w_X6_two_57 {p : Program} {l : Launch} {e : Env} {R : Room} {s : State} {m : MethodId} {args : Array Value} {below : List Frame} {meth : Method} {c : Code} {cells slots : Nat} {G : AG} {Q : (Int32 × HP) → State → Prop} (CX : am_X p l e R s m args below meth c cells slots G 5 cX6_two RX6 am_tb P_X6_two am_rI Q) {r : (Int32 × HP)} : ∀ (n : Nat) (a1 : Int32) (a2 : Int32) (a3 : Int32) (w1 : AV) (h : HP), g_X6_two_57 n a1 a2 a3 h = some r → am_W p l e R s m args below meth c cells slots G 5 (Q r) 57 [.inr (.inr (.inl (6, 0))), .inl a1, .inl a2, .inl a3, w1] [] h := by
  intro n
  induction n with
  | zero =>
    intro a1 a2 a3 w1 h q
    have q9 : (none : Option (Int32 × HP)) = some r := q
    cases q9
  | succ n ih =>
    intro a1 a2 a3 w1 h q
    exact am_run_ok CX ok_X6_two (K := [(57, pk_X6_two_57 (g_X6_two_57 n))]) (am_K1 (Wp := am_W p l e R s m args below meth c cells slots G 5 (Q r)) (pk_X6_two_57_ok (Wp := am_W p l e R s m args below meth c cells slots G 5 (Q r) 57) ih) am_K0) 46 57 _ _ _ q
set_option maxRecDepth 20000 in
theorem w_X6_two_18 {p : Program} {l : Launch} {e : Env} {R : Room} {s : State} {m : MethodId} {args : Array Value} {below : List Frame} {meth : Method} {c : Code} {cells slots : Nat} {G : AG} {Q : (Int32 × HP) → State → Prop} (CX : am_X p l e R s m args below meth c cells slots G 5 cX6_two RX6 am_tb P_X6_two am_rI Q) {r : (Int32 × HP)} : ∀ (w1 : Int32) (w2 : Int32) (h : HP), g_X6_two_18 h = some r → am_W p l e R s m args below meth c cells slots G 5 (Q r) 18 [.inr (.inr (.inl (6, 0))), .inl w1, .inl w2, .inr (.inr (.inr ())), .inr (.inr (.inr ()))] [] h := by
  intro w1 w2 h q
  exact am_run_ok CX ok_X6_two (K := []) (am_K0 (Wp := am_W p l e R s m args below meth c cells slots G 5 (Q r))) 7 18 _ _ _ q
set_option maxRecDepth 20000 in
theorem b_X6_two (l : Launch) (G : AG) : am_B l G 5 cX6_two RX6 am_tb P_X6_two am_rI fl_X6_two := by
  intro p e R s m args below meth c cells slots Q CX as h r q
  unfold fl_X6_two at q
  split at q
  · exact am_run_ok CX ok_X6_two (K := [(18, pk_X6_two_18 (g_X6_two_18)), (57, pk_X6_two_57 (g_X6_two_57 am_fu))]) (am_K1 (Wp := am_W p l e R s m args below meth c cells slots G 5 (Q r)) (pk_X6_two_18_ok (Wp := am_W p l e R s m args below meth c cells slots G 5 (Q r) 18) (w_X6_two_18 CX)) (am_K1 (Wp := am_W p l e R s m args below meth c cells slots G 5 (Q r)) (pk_X6_two_57_ok (Wp := am_W p l e R s m args below meth c cells slots G 5 (Q r) 57) (w_X6_two_57 CX am_fu)) am_K0)) 24 0 _ _ _ q
  · cases q
theorem s_X6_two : ∀ as h x, fl_X6_two as h = some x → (∀ k, (some 6 : Option Nat) = some k → ∃ (j : Nat) (as' : List AV), as = .inr (.inr (.inl (k, j))) :: as') ∧ (am_l0 as).length ≤ 5 := by
  intro as h x q
  unfold fl_X6_two at q
  split at q
  · exact ⟨fun k e => by cases e; exact ⟨_, _, rfl⟩, Nat.le_of_ble_eq_true rfl⟩
  · cases q
theorem M_X6_two (l : Launch) (G : AG) : am_M l G yX6_two cX6_two 5 (some .int) 6 146 (some 6) F_X6_two := am_M_of (f := fl_X6_two) (toR := fun x => (some (.inl x.1), x.2)) (P := P_X6_two) (Rr := am_rI) (own := RX6) (by decide) rfl (fun _ _ => rfl) s_X6_two am_wrI am_rkI pf_RX6 pk_RX6 ps_RX6 (List.forall_mem_cons.mpr ⟨cv_RX6_57 l G (by decide) (by decide), (List.forall_mem_cons.mpr ⟨cv_RX6_139 l G (by decide) (by decide), (List.forall_mem_cons.mpr ⟨cv_RX6_200 l G (by decide) (by decide), (List.forall_mem_cons.mpr ⟨cv_RX6_218 l G (by decide) (by decide), (List.forall_mem_cons.mpr ⟨cv_RX6_221 l G (by decide) (by decide), (List.forall_mem_cons.mpr ⟨cv_RX6_227 l G (by decide) (by decide), (fun _ q => by cases q)⟩)⟩)⟩)⟩)⟩)⟩) (List.forall_mem_cons.mpr ⟨cs_RX6_53 l G (by decide) (by decide), (fun _ q => by cases q)⟩) (fun _ q => by cases q) (b_X6_two l G)
def C_X6_meet : List AC := [(0, .aload_n 0, 1, []), (1, .getfield 10, 4, []), (4, .iload_n 1, 5, []), (5, .invokevirtual 139, 8, []), (8, .ifCond .eq 19, 11, [27]), (11, .aload_n 0, 12, []), (12, .getfield 10, 15, []), (15, .iload_n 2, 16, []), (16, .invokevirtual 139, 19, []), (19, .ifCond .eq 8, 22, [27]), (22, .iload_n 1, 23, []), (23, .iload_n 2, 24, []), (24, .if_icmp .ne 10, 27, [34]), (27, .aload_n 0, 28, []), (28, .ldc 56, 30, []), (30, .invokevirtual 57, 33, []), (33, .ireturn, 34, []), (34, .aload_n 0, 35, []), (35, .getfield 16, 38, []), (38, .aload_n 0, 39, []), (39, .getfield 10, 42, []), (42, .invokevirtual 200, 45, []), (45, .iconst 0, 46, []), (46, .istore_n 3, 47, []), (47, .iload_n 3, 48, []), (48, .bipush 60, 50, []), (50, .if_icmp .gt 39, 53, [89]), (53, .aload_n 0, 54, []), (54, .getfield 16, 57, []), (57, .iload_n 1, 58, []), (58, .invokevirtual 204, 61, []), (61, .aload_n 0, 62, []), (62, .getfield 16, 65, []), (65, .iload_n 2, 66, []), (66, .invokevirtual 204, 69, []), (69, .iand, 70, []), (70, .ifCond .eq 5, 73, [75]), (73, .iload_n 3, 74, []), (74, .ireturn, 75, []), (75, .aload_n 0, 76, []), (76, .getfield 16, 79, []), (79, .iconst 1, 80, []), (80, .invokevirtual 180, 83, []), (83, .iinc 3 1, 86, []), (86, .goto (-39), 89, [47]), (89, .aload_n 0, 90, []), (90, .ldc 124, 92, []), (92, .invokevirtual 57, 95, []), (95, .ireturn, 96, [])]
theorem ok_X6_meet : ∀ x ∈ C_X6_meet, am_ok cX6_meet 4 x = true := by decide +kernel
noncomputable def P_X6_meet : AP := (PF_RX6, PK_RX6, PS_RX6, [(57, 2, F_X6_tell), (139, 2, F_X1_hasMember), (180, 2, F_X1_goOn), (200, 2, F_X1_becomes), (204, 2, F_X1_reachOf)], [], [])
noncomputable def g_X6_meet_47  : Nat → Int32 → Int32 → Int32 → HP → Option (Int32 × HP)
  | 0, _, _, _, _ => none
  | n + 1, a1, a2, a3, h => if (60 : Int32) < a3 then ((f_X6_tell ((-1000000004)) h).bind (fun q_1 => some (q_1.1, q_1.2))) else ((f_X1_reachOf 1 a1 h).bind (fun q_2 => (f_X1_reachOf 1 a2 q_2.2).bind (fun q_3 => if q_2.1 &&& q_3.1 = (0 : Int32) then ((f_X1_goOn 1 1 q_3.2).bind (fun q_4 => g_X6_meet_47 n a1 a2 (a3 + 1) q_4)) else (some (a3, q_3.2)))))
def pk_X6_meet_47 (k : Int32 → Int32 → Int32 → HP → Option (Int32 × HP)) : List AV → List AV → HP → Option (Int32 × HP) := fun L st h => match L, st with
  | [.inr (.inr (.inl (6, 0))), .inl a1, .inl a2, .inl a3], [] => k a1 a2 a3 h
  | _, _ => none
theorem pk_X6_meet_47_ok {Wp : List AV → List AV → HP → Prop} {r : (Int32 × HP)} {k : Int32 → Int32 → Int32 → HP → Option (Int32 × HP)} (hk : ∀ (a1 : Int32) (a2 : Int32) (a3 : Int32) (h : HP), k a1 a2 a3 h = some r → Wp [.inr (.inr (.inl (6, 0))), .inl a1, .inl a2, .inl a3] [] h) : ∀ L st h, pk_X6_meet_47 k L st h = some r → Wp L st h := by
  intro L st h q
  unfold pk_X6_meet_47 at q
  split at q
  · exact hk _ _ _ _ q
  · cases q
noncomputable def g_X6_meet_27  (h : HP) : Option (Int32 × HP) := (f_X6_tell ((-1000000001)) h).bind (fun q_1 => some (q_1.1, q_1.2))
def pk_X6_meet_27 (k : HP → Option (Int32 × HP)) : List AV → List AV → HP → Option (Int32 × HP) := fun L st h => match L, st with
  | [.inr (.inr (.inl (6, 0))), .inl _, .inl _, .inr (.inr (.inr ()))], [] => k h
  | _, _ => none
theorem pk_X6_meet_27_ok {Wp : List AV → List AV → HP → Prop} {r : (Int32 × HP)} {k : HP → Option (Int32 × HP)} (hk : ∀ (w1 : Int32) (w2 : Int32) (h : HP), k h = some r → Wp [.inr (.inr (.inl (6, 0))), .inl w1, .inl w2, .inr (.inr (.inr ()))] [] h) : ∀ L st h, pk_X6_meet_27 k L st h = some r → Wp L st h := by
  intro L st h q
  unfold pk_X6_meet_27 at q
  split at q
  · exact hk _ _ _ q
  · cases q
noncomputable def f_X6_meet (a1 : Int32) (a2 : Int32) (h : HP) : Option (Int32 × HP) := (f_X1_hasMember 0 a1 h).bind (fun q_1 => if q_1.1 = (0 : Int32) then (g_X6_meet_27 q_1.2) else ((f_X1_hasMember 0 a2 q_1.2).bind (fun q_2 => if q_2.1 = (0 : Int32) then (g_X6_meet_27 q_2.2) else (if a1 = a2 then (g_X6_meet_27 q_2.2) else ((f_X1_becomes 1 0 q_2.2).bind (fun q_3 => g_X6_meet_47 am_fu a1 a2 0 q_3))))))
noncomputable def fl_X6_meet : List AV → HP → Option (Int32 × HP) := fun as h => match as with
  | [.inr (.inr (.inl (6, 0))), .inl a1, .inl a2] => f_X6_meet a1 a2 h
  | _ => none
noncomputable def F_X6_meet : AF := .inl fl_X6_meet
set_option maxRecDepth 20000 in
theorem w_X6_meet_47 {p : Program} {l : Launch} {e : Env} {R : Room} {s : State} {m : MethodId} {args : Array Value} {below : List Frame} {meth : Method} {c : Code} {cells slots : Nat} {G : AG} {Q : (Int32 × HP) → State → Prop} (CX : am_X p l e R s m args below meth c cells slots G 4 cX6_meet RX6 am_tb P_X6_meet am_rI Q) {r : (Int32 × HP)} : ∀ (n : Nat) (a1 : Int32) (a2 : Int32) (a3 : Int32) (h : HP), g_X6_meet_47 n a1 a2 a3 h = some r → am_W p l e R s m args below meth c cells slots G 4 (Q r) 47 [.inr (.inr (.inl (6, 0))), .inl a1, .inl a2, .inl a3] [] h := by
  intro n
  induction n with
  | zero =>
    intro a1 a2 a3 h q
    have q9 : (none : Option (Int32 × HP)) = some r := q
    cases q9
  | succ n ih =>
    intro a1 a2 a3 h q
    exact am_run_ok CX ok_X6_meet (K := [(47, pk_X6_meet_47 (g_X6_meet_47 n))]) (am_K1 (Wp := am_W p l e R s m args below meth c cells slots G 4 (Q r)) (pk_X6_meet_47_ok (Wp := am_W p l e R s m args below meth c cells slots G 4 (Q r) 47) ih) am_K0) 22 47 _ _ _ q
set_option maxRecDepth 20000 in
theorem w_X6_meet_27 {p : Program} {l : Launch} {e : Env} {R : Room} {s : State} {m : MethodId} {args : Array Value} {below : List Frame} {meth : Method} {c : Code} {cells slots : Nat} {G : AG} {Q : (Int32 × HP) → State → Prop} (CX : am_X p l e R s m args below meth c cells slots G 4 cX6_meet RX6 am_tb P_X6_meet am_rI Q) {r : (Int32 × HP)} : ∀ (w1 : Int32) (w2 : Int32) (h : HP), g_X6_meet_27 h = some r → am_W p l e R s m args below meth c cells slots G 4 (Q r) 27 [.inr (.inr (.inl (6, 0))), .inl w1, .inl w2, .inr (.inr (.inr ()))] [] h := by
  intro w1 w2 h q
  exact am_run_ok CX ok_X6_meet (K := []) (am_K0 (Wp := am_W p l e R s m args below meth c cells slots G 4 (Q r))) 7 27 _ _ _ q
set_option maxRecDepth 20000 in
theorem b_X6_meet (l : Launch) (G : AG) : am_B l G 4 cX6_meet RX6 am_tb P_X6_meet am_rI fl_X6_meet := by
  intro p e R s m args below meth c cells slots Q CX as h r q
  unfold fl_X6_meet at q
  split at q
  · exact am_run_ok CX ok_X6_meet (K := [(27, pk_X6_meet_27 (g_X6_meet_27)), (47, pk_X6_meet_47 (g_X6_meet_47 am_fu))]) (am_K1 (Wp := am_W p l e R s m args below meth c cells slots G 4 (Q r)) (pk_X6_meet_27_ok (Wp := am_W p l e R s m args below meth c cells slots G 4 (Q r) 27) (w_X6_meet_27 CX)) (am_K1 (Wp := am_W p l e R s m args below meth c cells slots G 4 (Q r)) (pk_X6_meet_47_ok (Wp := am_W p l e R s m args below meth c cells slots G 4 (Q r) 47) (w_X6_meet_47 CX am_fu)) am_K0)) 23 0 _ _ _ q
  · cases q
theorem s_X6_meet : ∀ as h x, fl_X6_meet as h = some x → (∀ k, (some 6 : Option Nat) = some k → ∃ (j : Nat) (as' : List AV), as = .inr (.inr (.inl (k, j))) :: as') ∧ (am_l0 as).length ≤ 4 := by
  intro as h x q
  unfold fl_X6_meet at q
  split at q
  · exact ⟨fun k e => by cases e; exact ⟨_, _, rfl⟩, Nat.le_of_ble_eq_true rfl⟩
  · cases q
theorem M_X6_meet (l : Launch) (G : AG) : am_M l G yX6_meet cX6_meet 4 (some .int) 5 121 (some 6) F_X6_meet := am_M_of (f := fl_X6_meet) (toR := fun x => (some (.inl x.1), x.2)) (P := P_X6_meet) (Rr := am_rI) (own := RX6) (by decide) rfl (fun _ _ => rfl) s_X6_meet am_wrI am_rkI pf_RX6 pk_RX6 ps_RX6 (List.forall_mem_cons.mpr ⟨cv_RX6_57 l G (by decide) (by decide), (List.forall_mem_cons.mpr ⟨cv_RX6_139 l G (by decide) (by decide), (List.forall_mem_cons.mpr ⟨cv_RX6_180 l G (by decide) (by decide), (List.forall_mem_cons.mpr ⟨cv_RX6_200 l G (by decide) (by decide), (List.forall_mem_cons.mpr ⟨cv_RX6_204 l G (by decide) (by decide), (fun _ q => by cases q)⟩)⟩)⟩)⟩)⟩) (fun _ q => by cases q) (fun _ q => by cases q) (b_X6_meet l G)
theorem cs_RX6_230 (l : Launch) (G : AG) {fr lo : Nat} (h1 : 0 + 1 ≤ fr) (h2 : 8 + (1 + 11) + 0 ≤ lo) : am_csOK l G RX6 fr lo (230, 1, F_J6_bitCount_0f7a4) := Or.inl ⟨yJ6_bitCount_0f7a4, cJ6_bitCount_0f7a4, 1, (some .int), 0, 0, M_J6_bitCount_0f7a4 l G, ⟨(am_tb_mem (wd_11 _ (List.mem_of_getElem? (i := 35) rfl))), (am_tb_mem (wd_8 _ (List.mem_of_getElem? (i := 5) rfl))), (am_tb_mem (wd_1 _ (List.mem_of_getElem? (i := 27) rfl))), (am_tb_mem (wd_8 _ (List.mem_of_getElem? (i := 6) rfl)))⟩, ⟨by decide, by decide, by decide +kernel⟩, h1, h2⟩
def C_X6_kind : List AC := [(0, .aload_n 0, 1, []), (1, .getfield 10, 4, []), (4, .iload_n 1, 5, []), (5, .invokevirtual 139, 8, []), (8, .ifCond .eq 14, 11, [22]), (11, .aload_n 0, 12, []), (12, .getfield 10, 15, []), (15, .iload_n 2, 16, []), (16, .invokevirtual 70, 19, []), (19, .ifCond .ne 10, 22, [29]), (22, .aload_n 0, 23, []), (23, .ldc 56, 25, []), (25, .invokevirtual 57, 28, []), (28, .ireturn, 29, []), (29, .aload_n 0, 30, []), (30, .getfield 10, 33, []), (33, .iload_n 1, 34, []), (34, .iload_n 2, 35, []), (35, .invokevirtual 173, 38, []), (38, .ifCond .ne 10, 41, [48]), (41, .aload_n 0, 42, []), (42, .ldc 163, 44, []), (44, .invokevirtual 57, 47, []), (47, .ireturn, 48, []), (48, .aload_n 0, 49, []), (49, .getfield 16, 52, []), (52, .aload_n 0, 53, []), (53, .getfield 10, 56, []), (56, .invokevirtual 200, 59, []), (59, .iconst 0, 60, []), (60, .istore_n 3, 61, []), (61, .iconst 0, 62, []), (62, .istore 4, 64, []), (64, .iconst 0, 65, []), (65, .istore 5, 67, []), (67, .iload 5, 69, []), (69, .bipush 6, 71, []), (71, .if_icmp .ge 50, 74, [121]), (74, .aload_n 0, 75, []), (75, .getfield 16, 78, []), (78, .getfield 73, 81, []), (81, .iload_n 2, 82, []), (82, .aaload, 83, []), (83, .iload 5, 85, []), (85, .putfield 77, 88, []), (88, .aload_n 0, 89, []), (89, .getfield 16, 92, []), (92, .iload_n 1, 93, []), (93, .invokevirtual 204, 96, []), (96, .invokestatic 230, 99, []), (99, .istore 6, 101, []), (101, .iload 6, 103, []), (103, .iload 4, 105, []), (105, .if_icmp .le 10, 108, [115]), (108, .iload 6, 110, []), (110, .istore 4, 112, []), (112, .iload 5, 114, []), (114, .istore_n 3, 115, []), (115, .iinc 5 1, 118, []), (118, .goto (-51), 121, [67]), (121, .iload_n 3, 122, []), (122, .ireturn, 123, [])]
theorem ok_X6_kind : ∀ x ∈ C_X6_kind, am_ok cX6_kind 7 x = true := by decide +kernel
noncomputable def P_X6_kind : AP := (PF_RX6, PK_RX6, PS_RX6, [(57, 2, F_X6_tell), (70, 2, F_X1_hasHandle), (139, 2, F_X1_hasMember), (173, 3, F_X1_holds), (200, 2, F_X1_becomes), (204, 2, F_X1_reachOf)], [(230, 1, F_J6_bitCount_0f7a4)], [])
noncomputable def g_X6_kind_67  : Nat → Int32 → Int32 → Int32 → Int32 → Int32 → HP → Option (Int32 × HP)
  | 0, _, _, _, _, _, _ => none
  | n + 1, a1, a2, a3, a4, a5, h => if (6 : Int32) ≤ a5 then (some (a3, h)) else ((am_ix a2 8).bind (fun k_1 => (f_X1_reachOf 1 a1 (h_wI h 0 (8 * 1 + k_1) 0 a5)).bind (fun q_2 => (f_J6_bitCount_0f7a4 q_2.1 q_2.2).bind (fun q_3 => if q_3.1 ≤ a4 then (g_X6_kind_67 n a1 a2 a3 a4 (a5 + 1) q_3.2) else (g_X6_kind_67 n a1 a2 a5 q_3.1 (a5 + 1) q_3.2)))))
def pk_X6_kind_67 (k : Int32 → Int32 → Int32 → Int32 → Int32 → HP → Option (Int32 × HP)) : List AV → List AV → HP → Option (Int32 × HP) := fun L st h => match L, st with
  | [.inr (.inr (.inl (6, 0))), .inl a1, .inl a2, .inl a3, .inl a4, .inl a5, _], [] => k a1 a2 a3 a4 a5 h
  | _, _ => none
theorem pk_X6_kind_67_ok {Wp : List AV → List AV → HP → Prop} {r : (Int32 × HP)} {k : Int32 → Int32 → Int32 → Int32 → Int32 → HP → Option (Int32 × HP)} (hk : ∀ (a1 : Int32) (a2 : Int32) (a3 : Int32) (a4 : Int32) (a5 : Int32) (w1 : AV) (h : HP), k a1 a2 a3 a4 a5 h = some r → Wp [.inr (.inr (.inl (6, 0))), .inl a1, .inl a2, .inl a3, .inl a4, .inl a5, w1] [] h) : ∀ L st h, pk_X6_kind_67 k L st h = some r → Wp L st h := by
  intro L st h q
  unfold pk_X6_kind_67 at q
  split at q
  · exact hk _ _ _ _ _ _ _ q
  · cases q
noncomputable def g_X6_kind_22  (h : HP) : Option (Int32 × HP) := (f_X6_tell ((-1000000001)) h).bind (fun q_1 => some (q_1.1, q_1.2))
def pk_X6_kind_22 (k : HP → Option (Int32 × HP)) : List AV → List AV → HP → Option (Int32 × HP) := fun L st h => match L, st with
  | [.inr (.inr (.inl (6, 0))), .inl _, .inl _, .inr (.inr (.inr ())), .inr (.inr (.inr ())), .inr (.inr (.inr ())), .inr (.inr (.inr ()))], [] => k h
  | _, _ => none
theorem pk_X6_kind_22_ok {Wp : List AV → List AV → HP → Prop} {r : (Int32 × HP)} {k : HP → Option (Int32 × HP)} (hk : ∀ (w1 : Int32) (w2 : Int32) (h : HP), k h = some r → Wp [.inr (.inr (.inl (6, 0))), .inl w1, .inl w2, .inr (.inr (.inr ())), .inr (.inr (.inr ())), .inr (.inr (.inr ())), .inr (.inr (.inr ()))] [] h) : ∀ L st h, pk_X6_kind_22 k L st h = some r → Wp L st h := by
  intro L st h q
  unfold pk_X6_kind_22 at q
  split at q
  · exact hk _ _ _ q
  · cases q
noncomputable def f_X6_kind (a1 : Int32) (a2 : Int32) (h : HP) : Option (Int32 × HP) := (f_X1_hasMember 0 a1 h).bind (fun q_1 => if q_1.1 = (0 : Int32) then (g_X6_kind_22 q_1.2) else ((f_X1_hasHandle 0 a2 q_1.2).bind (fun q_2 => if q_2.1 = (0 : Int32) then (g_X6_kind_22 q_2.2) else ((f_X1_holds 0 a1 a2 q_2.2).bind (fun q_3 => if q_3.1 = (0 : Int32) then ((f_X6_tell ((-1000000005)) q_3.2).bind (fun q_5 => some (q_5.1, q_5.2))) else ((f_X1_becomes 1 0 q_3.2).bind (fun q_4 => g_X6_kind_67 am_fu a1 a2 0 0 0 q_4)))))))
noncomputable def fl_X6_kind : List AV → HP → Option (Int32 × HP) := fun as h => match as with
  | [.inr (.inr (.inl (6, 0))), .inl a1, .inl a2] => f_X6_kind a1 a2 h
  | _ => none
noncomputable def F_X6_kind : AF := .inl fl_X6_kind
set_option maxRecDepth 20000 in
theorem w_X6_kind_67 {p : Program} {l : Launch} {e : Env} {R : Room} {s : State} {m : MethodId} {args : Array Value} {below : List Frame} {meth : Method} {c : Code} {cells slots : Nat} {G : AG} {Q : (Int32 × HP) → State → Prop} (CX : am_X p l e R s m args below meth c cells slots G 7 cX6_kind RX6 am_tb P_X6_kind am_rI Q) {r : (Int32 × HP)} : ∀ (n : Nat) (a1 : Int32) (a2 : Int32) (a3 : Int32) (a4 : Int32) (a5 : Int32) (w1 : AV) (h : HP), g_X6_kind_67 n a1 a2 a3 a4 a5 h = some r → am_W p l e R s m args below meth c cells slots G 7 (Q r) 67 [.inr (.inr (.inl (6, 0))), .inl a1, .inl a2, .inl a3, .inl a4, .inl a5, w1] [] h := by
  intro n
  induction n with
  | zero =>
    intro a1 a2 a3 a4 a5 w1 h q
    have q9 : (none : Option (Int32 × HP)) = some r := q
    cases q9
  | succ n ih =>
    intro a1 a2 a3 a4 a5 w1 h q
    exact am_run_ok CX ok_X6_kind (K := [(67, pk_X6_kind_67 (g_X6_kind_67 n))]) (am_K1 (Wp := am_W p l e R s m args below meth c cells slots G 7 (Q r)) (pk_X6_kind_67_ok (Wp := am_W p l e R s m args below meth c cells slots G 7 (Q r) 67) ih) am_K0) 28 67 _ _ _ q
set_option maxRecDepth 20000 in
theorem w_X6_kind_22 {p : Program} {l : Launch} {e : Env} {R : Room} {s : State} {m : MethodId} {args : Array Value} {below : List Frame} {meth : Method} {c : Code} {cells slots : Nat} {G : AG} {Q : (Int32 × HP) → State → Prop} (CX : am_X p l e R s m args below meth c cells slots G 7 cX6_kind RX6 am_tb P_X6_kind am_rI Q) {r : (Int32 × HP)} : ∀ (w1 : Int32) (w2 : Int32) (h : HP), g_X6_kind_22 h = some r → am_W p l e R s m args below meth c cells slots G 7 (Q r) 22 [.inr (.inr (.inl (6, 0))), .inl w1, .inl w2, .inr (.inr (.inr ())), .inr (.inr (.inr ())), .inr (.inr (.inr ())), .inr (.inr (.inr ()))] [] h := by
  intro w1 w2 h q
  exact am_run_ok CX ok_X6_kind (K := []) (am_K0 (Wp := am_W p l e R s m args below meth c cells slots G 7 (Q r))) 7 22 _ _ _ q
set_option maxRecDepth 20000 in
theorem b_X6_kind (l : Launch) (G : AG) : am_B l G 7 cX6_kind RX6 am_tb P_X6_kind am_rI fl_X6_kind := by
  intro p e R s m args below meth c cells slots Q CX as h r q
  unfold fl_X6_kind at q
  split at q
  · exact am_run_ok CX ok_X6_kind (K := [(22, pk_X6_kind_22 (g_X6_kind_22)), (67, pk_X6_kind_67 (g_X6_kind_67 am_fu))]) (am_K1 (Wp := am_W p l e R s m args below meth c cells slots G 7 (Q r)) (pk_X6_kind_22_ok (Wp := am_W p l e R s m args below meth c cells slots G 7 (Q r) 22) (w_X6_kind_22 CX)) (am_K1 (Wp := am_W p l e R s m args below meth c cells slots G 7 (Q r)) (pk_X6_kind_67_ok (Wp := am_W p l e R s m args below meth c cells slots G 7 (Q r) 67) (w_X6_kind_67 CX am_fu)) am_K0)) 30 0 _ _ _ q
  · cases q
theorem s_X6_kind : ∀ as h x, fl_X6_kind as h = some x → (∀ k, (some 6 : Option Nat) = some k → ∃ (j : Nat) (as' : List AV), as = .inr (.inr (.inl (k, j))) :: as') ∧ (am_l0 as).length ≤ 7 := by
  intro as h x q
  unfold fl_X6_kind at q
  split at q
  · exact ⟨fun k e => by cases e; exact ⟨_, _, rfl⟩, Nat.le_of_ble_eq_true rfl⟩
  · cases q
theorem M_X6_kind (l : Launch) (G : AG) : am_M l G yX6_kind cX6_kind 7 (some .int) 5 121 (some 6) F_X6_kind := am_M_of (f := fl_X6_kind) (toR := fun x => (some (.inl x.1), x.2)) (P := P_X6_kind) (Rr := am_rI) (own := RX6) (by decide) rfl (fun _ _ => rfl) s_X6_kind am_wrI am_rkI pf_RX6 pk_RX6 ps_RX6 (List.forall_mem_cons.mpr ⟨cv_RX6_57 l G (by decide) (by decide), (List.forall_mem_cons.mpr ⟨cv_RX6_70 l G (by decide) (by decide), (List.forall_mem_cons.mpr ⟨cv_RX6_139 l G (by decide) (by decide), (List.forall_mem_cons.mpr ⟨cv_RX6_173 l G (by decide) (by decide), (List.forall_mem_cons.mpr ⟨cv_RX6_200 l G (by decide) (by decide), (List.forall_mem_cons.mpr ⟨cv_RX6_204 l G (by decide) (by decide), (fun _ q => by cases q)⟩)⟩)⟩)⟩)⟩)⟩) (List.forall_mem_cons.mpr ⟨cs_RX6_230 l G (by decide) (by decide), (fun _ q => by cases q)⟩) (fun _ q => by cases q) (b_X6_kind l G)
def C_X6_least : List AC := [(0, .aload_n 0, 1, []), (1, .getfield 10, 4, []), (4, .iload_n 1, 5, []), (5, .invokevirtual 139, 8, []), (8, .ifCond .eq 12, 11, [20]), (11, .iload_n 2, 12, []), (12, .bipush 60, 14, []), (14, .invokestatic 113, 17, []), (17, .ifCond .ne 10, 20, [27]), (20, .aload_n 0, 21, []), (21, .ldc 56, 23, []), (23, .invokevirtual 57, 26, []), (26, .ireturn, 27, []), (27, .aload_n 0, 28, []), (28, .getfield 10, 31, []), (31, .getfield 142, 34, []), (34, .iload_n 1, 35, []), (35, .aaload, 36, []), (36, .getfield 151, 39, []), (39, .istore_n 3, 40, []), (40, .iconst 0, 41, []), (41, .istore 4, 43, []), (43, .iload 4, 45, []), (45, .bipush 30, 47, []), (47, .if_icmp .gt 27, 50, [74]), (50, .aload_n 0, 51, []), (51, .getfield 10, 54, []), (54, .iload_n 1, 55, []), (55, .iload_n 2, 56, []), (56, .iload 4, 58, []), (58, .invokevirtual 196, 61, []), (61, .iload_n 3, 62, []), (62, .if_icmp .gt 6, 65, [68]), (65, .iload 4, 67, []), (67, .ireturn, 68, []), (68, .iinc 4 1, 71, []), (71, .goto (-28), 74, [43]), (74, .aload_n 0, 75, []), (75, .ldc 124, 77, []), (77, .invokevirtual 57, 80, []), (80, .ireturn, 81, [])]
theorem ok_X6_least : ∀ x ∈ C_X6_least, am_ok cX6_least 5 x = true := by decide +kernel
noncomputable def P_X6_least : AP := (PF_RX6, PK_RX6, PS_RX6, [(57, 2, F_X6_tell), (139, 2, F_X1_hasMember), (196, 4, F_X1_finesAhead)], [(113, 2, F_X6_isUpTo)], [])
noncomputable def g_X6_least_43  : Nat → Int32 → Int32 → Int32 → Int32 → HP → Option (Int32 × HP)
  | 0, _, _, _, _, _ => none
  | n + 1, a1, a2, a3, a4, h => if (30 : Int32) < a4 then ((f_X6_tell ((-1000000004)) h).bind (fun q_1 => some (q_1.1, q_1.2))) else ((f_X1_finesAhead 0 a1 a2 a4 h).bind (fun q_2 => if a3 < q_2.1 then (g_X6_least_43 n a1 a2 a3 (a4 + 1) q_2.2) else (some (a4, q_2.2))))
def pk_X6_least_43 (k : Int32 → Int32 → Int32 → Int32 → HP → Option (Int32 × HP)) : List AV → List AV → HP → Option (Int32 × HP) := fun L st h => match L, st with
  | [.inr (.inr (.inl (6, 0))), .inl a1, .inl a2, .inl a3, .inl a4], [] => k a1 a2 a3 a4 h
  | _, _ => none
theorem pk_X6_least_43_ok {Wp : List AV → List AV → HP → Prop} {r : (Int32 × HP)} {k : Int32 → Int32 → Int32 → Int32 → HP → Option (Int32 × HP)} (hk : ∀ (a1 : Int32) (a2 : Int32) (a3 : Int32) (a4 : Int32) (h : HP), k a1 a2 a3 a4 h = some r → Wp [.inr (.inr (.inl (6, 0))), .inl a1, .inl a2, .inl a3, .inl a4] [] h) : ∀ L st h, pk_X6_least_43 k L st h = some r → Wp L st h := by
  intro L st h q
  unfold pk_X6_least_43 at q
  split at q
  · exact hk _ _ _ _ _ q
  · cases q
noncomputable def g_X6_least_20  (h : HP) : Option (Int32 × HP) := (f_X6_tell ((-1000000001)) h).bind (fun q_1 => some (q_1.1, q_1.2))
def pk_X6_least_20 (k : HP → Option (Int32 × HP)) : List AV → List AV → HP → Option (Int32 × HP) := fun L st h => match L, st with
  | [.inr (.inr (.inl (6, 0))), .inl _, .inl _, .inr (.inr (.inr ())), .inr (.inr (.inr ()))], [] => k h
  | _, _ => none
theorem pk_X6_least_20_ok {Wp : List AV → List AV → HP → Prop} {r : (Int32 × HP)} {k : HP → Option (Int32 × HP)} (hk : ∀ (w1 : Int32) (w2 : Int32) (h : HP), k h = some r → Wp [.inr (.inr (.inl (6, 0))), .inl w1, .inl w2, .inr (.inr (.inr ())), .inr (.inr (.inr ()))] [] h) : ∀ L st h, pk_X6_least_20 k L st h = some r → Wp L st h := by
  intro L st h q
  unfold pk_X6_least_20 at q
  split at q
  · exact hk _ _ _ q
  · cases q
noncomputable def f_X6_least (a1 : Int32) (a2 : Int32) (h : HP) : Option (Int32 × HP) := (f_X1_hasMember 0 a1 h).bind (fun q_1 => if q_1.1 = (0 : Int32) then (g_X6_least_20 q_1.2) else ((f_X6_isUpTo a2 60 q_1.2).bind (fun q_2 => if q_2.1 = (0 : Int32) then (g_X6_least_20 q_2.2) else ((am_ix a1 6).bind (fun k_3 => g_X6_least_43 am_fu a1 a2 (h_rI q_2.2 2 (6 * 0 + k_3) 1) 0 q_2.2)))))
noncomputable def fl_X6_least : List AV → HP → Option (Int32 × HP) := fun as h => match as with
  | [.inr (.inr (.inl (6, 0))), .inl a1, .inl a2] => f_X6_least a1 a2 h
  | _ => none
noncomputable def F_X6_least : AF := .inl fl_X6_least
set_option maxRecDepth 20000 in
theorem w_X6_least_43 {p : Program} {l : Launch} {e : Env} {R : Room} {s : State} {m : MethodId} {args : Array Value} {below : List Frame} {meth : Method} {c : Code} {cells slots : Nat} {G : AG} {Q : (Int32 × HP) → State → Prop} (CX : am_X p l e R s m args below meth c cells slots G 5 cX6_least RX6 am_tb P_X6_least am_rI Q) {r : (Int32 × HP)} : ∀ (n : Nat) (a1 : Int32) (a2 : Int32) (a3 : Int32) (a4 : Int32) (h : HP), g_X6_least_43 n a1 a2 a3 a4 h = some r → am_W p l e R s m args below meth c cells slots G 5 (Q r) 43 [.inr (.inr (.inl (6, 0))), .inl a1, .inl a2, .inl a3, .inl a4] [] h := by
  intro n
  induction n with
  | zero =>
    intro a1 a2 a3 a4 h q
    have q9 : (none : Option (Int32 × HP)) = some r := q
    cases q9
  | succ n ih =>
    intro a1 a2 a3 a4 h q
    exact am_run_ok CX ok_X6_least (K := [(43, pk_X6_least_43 (g_X6_least_43 n))]) (am_K1 (Wp := am_W p l e R s m args below meth c cells slots G 5 (Q r)) (pk_X6_least_43_ok (Wp := am_W p l e R s m args below meth c cells slots G 5 (Q r) 43) ih) am_K0) 16 43 _ _ _ q
set_option maxRecDepth 20000 in
theorem w_X6_least_20 {p : Program} {l : Launch} {e : Env} {R : Room} {s : State} {m : MethodId} {args : Array Value} {below : List Frame} {meth : Method} {c : Code} {cells slots : Nat} {G : AG} {Q : (Int32 × HP) → State → Prop} (CX : am_X p l e R s m args below meth c cells slots G 5 cX6_least RX6 am_tb P_X6_least am_rI Q) {r : (Int32 × HP)} : ∀ (w1 : Int32) (w2 : Int32) (h : HP), g_X6_least_20 h = some r → am_W p l e R s m args below meth c cells slots G 5 (Q r) 20 [.inr (.inr (.inl (6, 0))), .inl w1, .inl w2, .inr (.inr (.inr ())), .inr (.inr (.inr ()))] [] h := by
  intro w1 w2 h q
  exact am_run_ok CX ok_X6_least (K := []) (am_K0 (Wp := am_W p l e R s m args below meth c cells slots G 5 (Q r))) 7 20 _ _ _ q
set_option maxRecDepth 20000 in
theorem b_X6_least (l : Launch) (G : AG) : am_B l G 5 cX6_least RX6 am_tb P_X6_least am_rI fl_X6_least := by
  intro p e R s m args below meth c cells slots Q CX as h r q
  unfold fl_X6_least at q
  split at q
  · exact am_run_ok CX ok_X6_least (K := [(20, pk_X6_least_20 (g_X6_least_20)), (43, pk_X6_least_43 (g_X6_least_43 am_fu))]) (am_K1 (Wp := am_W p l e R s m args below meth c cells slots G 5 (Q r)) (pk_X6_least_20_ok (Wp := am_W p l e R s m args below meth c cells slots G 5 (Q r) 20) (w_X6_least_20 CX)) (am_K1 (Wp := am_W p l e R s m args below meth c cells slots G 5 (Q r)) (pk_X6_least_43_ok (Wp := am_W p l e R s m args below meth c cells slots G 5 (Q r) 43) (w_X6_least_43 CX am_fu)) am_K0)) 21 0 _ _ _ q
  · cases q
theorem s_X6_least : ∀ as h x, fl_X6_least as h = some x → (∀ k, (some 6 : Option Nat) = some k → ∃ (j : Nat) (as' : List AV), as = .inr (.inr (.inl (k, j))) :: as') ∧ (am_l0 as).length ≤ 5 := by
  intro as h x q
  unfold fl_X6_least at q
  split at q
  · exact ⟨fun k e => by cases e; exact ⟨_, _, rfl⟩, Nat.le_of_ble_eq_true rfl⟩
  · cases q
theorem M_X6_least (l : Launch) (G : AG) : am_M l G yX6_least cX6_least 5 (some .int) 2 47 (some 6) F_X6_least := am_M_of (f := fl_X6_least) (toR := fun x => (some (.inl x.1), x.2)) (P := P_X6_least) (Rr := am_rI) (own := RX6) (by decide) rfl (fun _ _ => rfl) s_X6_least am_wrI am_rkI pf_RX6 pk_RX6 ps_RX6 (List.forall_mem_cons.mpr ⟨cv_RX6_57 l G (by decide) (by decide), (List.forall_mem_cons.mpr ⟨cv_RX6_139 l G (by decide) (by decide), (List.forall_mem_cons.mpr ⟨cv_RX6_196 l G (by decide) (by decide), (fun _ q => by cases q)⟩)⟩)⟩) (List.forall_mem_cons.mpr ⟨cs_RX6_113 l G (by decide) (by decide), (fun _ q => by cases q)⟩) (fun _ q => by cases q) (b_X6_least l G)
def C_X6_uses : List AC := [(0, .aload_n 0, 1, []), (1, .getfield 10, 4, []), (4, .iload_n 1, 5, []), (5, .invokevirtual 70, 8, []), (8, .ifCond .eq 10, 11, [18]), (11, .iload_n 2, 12, []), (12, .invokestatic 53, 15, []), (15, .ifCond .ne 10, 18, [25]), (18, .aload_n 0, 19, []), (19, .ldc 56, 21, []), (21, .invokevirtual 57, 24, []), (24, .ireturn, 25, []), (25, .aload_n 0, 26, []), (26, .getfield 16, 29, []), (29, .aload_n 0, 30, []), (30, .getfield 10, 33, []), (33, .invokevirtual 200, 36, []), (36, .iload_n 2, 37, []), (37, .istore_n 3, 38, []), (38, .iconst 0, 39, []), (39, .istore 4, 41, []), (41, .iload 4, 43, []), (43, .bipush 99, 45, []), (45, .if_icmp .ge 50, 48, [95]), (48, .aload_n 0, 49, []), (49, .getfield 16, 52, []), (52, .iload_n 1, 53, []), (53, .iload_n 3, 54, []), (54, .invokevirtual 121, 57, []), (57, .ifCond .eq 38, 60, [95]), (60, .aload_n 0, 61, []), (61, .getfield 16, 64, []), (64, .iload_n 1, 65, []), (65, .iload_n 3, 66, []), (66, .invokevirtual 125, 69, []), (69, .istore_n 3, 70, []), (70, .aload_n 0, 71, []), (71, .getfield 16, 74, []), (74, .getfield 73, 77, []), (77, .iload_n 1, 78, []), (78, .aaload, 79, []), (79, .aload_n 0, 80, []), (80, .getfield 16, 83, []), (83, .getfield 107, 86, []), (86, .invokevirtual 176, 89, []), (89, .iinc 4 1, 92, []), (92, .goto (-51), 95, [41]), (95, .iload 4, 97, []), (97, .ireturn, 98, [])]
theorem ok_X6_uses : ∀ x ∈ C_X6_uses, am_ok cX6_uses 5 x = true := by decide +kernel
noncomputable def P_X6_uses : AP := (PF_RX6, PK_RX6, PS_RX6, [(57, 2, F_X6_tell), (70, 2, F_X1_hasHandle), (121, 3, F_X1_opensIn), (125, 3, F_X1_ledTo), (176, 2, F_X0_wearOnce), (200, 2, F_X1_becomes)], [(53, 1, F_X6_isRoom)], [])
noncomputable def g_X6_uses_41  : Nat → Int32 → Int32 → Int32 → HP → Option (Int32 × HP)
  | 0, _, _, _, _ => none
  | n + 1, a1, a2, a3, h => if (99 : Int32) ≤ a3 then (some (a3, h)) else ((f_X1_opensIn 1 a1 a2 h).bind (fun q_1 => if q_1.1 = (0 : Int32) then (some (a3, q_1.2)) else ((f_X1_ledTo 1 a1 a2 q_1.2).bind (fun q_2 => (am_ix a1 8).bind (fun k_3 => (f_X0_wearOnce (8 * 1 + k_3) (h_rI q_2.2 1 1 0) q_2.2).bind (fun q_4 => g_X6_uses_41 n a1 q_2.1 (a3 + 1) q_4))))))
def pk_X6_uses_41 (k : Int32 → Int32 → Int32 → HP → Option (Int32 × HP)) : List AV → List AV → HP → Option (Int32 × HP) := fun L st h => match L, st with
  | [.inr (.inr (.inl (6, 0))), .inl a1, .inl _, .inl a2, .inl a3], [] => k a1 a2 a3 h
  | _, _ => none
theorem pk_X6_uses_41_ok {Wp : List AV → List AV → HP → Prop} {r : (Int32 × HP)} {k : Int32 → Int32 → Int32 → HP → Option (Int32 × HP)} (hk : ∀ (a1 : Int32) (a2 : Int32) (a3 : Int32) (w1 : Int32) (h : HP), k a1 a2 a3 h = some r → Wp [.inr (.inr (.inl (6, 0))), .inl a1, .inl w1, .inl a2, .inl a3] [] h) : ∀ L st h, pk_X6_uses_41 k L st h = some r → Wp L st h := by
  intro L st h q
  unfold pk_X6_uses_41 at q
  split at q
  · exact hk _ _ _ _ _ q
  · cases q
noncomputable def g_X6_uses_18  (h : HP) : Option (Int32 × HP) := (f_X6_tell ((-1000000001)) h).bind (fun q_1 => some (q_1.1, q_1.2))
def pk_X6_uses_18 (k : HP → Option (Int32 × HP)) : List AV → List AV → HP → Option (Int32 × HP) := fun L st h => match L, st with
  | [.inr (.inr (.inl (6, 0))), .inl _, .inl _, .inr (.inr (.inr ())), .inr (.inr (.inr ()))], [] => k h
  | _, _ => none
theorem pk_X6_uses_18_ok {Wp : List AV → List AV → HP → Prop} {r : (Int32 × HP)} {k : HP → Option (Int32 × HP)} (hk : ∀ (w1 : Int32) (w2 : Int32) (h : HP), k h = some r → Wp [.inr (.inr (.inl (6, 0))), .inl w1, .inl w2, .inr (.inr (.inr ())), .inr (.inr (.inr ()))] [] h) : ∀ L st h, pk_X6_uses_18 k L st h = some r → Wp L st h := by
  intro L st h q
  unfold pk_X6_uses_18 at q
  split at q
  · exact hk _ _ _ q
  · cases q
noncomputable def f_X6_uses (a1 : Int32) (a2 : Int32) (h : HP) : Option (Int32 × HP) := (f_X1_hasHandle 0 a1 h).bind (fun q_1 => if q_1.1 = (0 : Int32) then (g_X6_uses_18 q_1.2) else ((f_X6_isRoom a2 q_1.2).bind (fun q_2 => if q_2.1 = (0 : Int32) then (g_X6_uses_18 q_2.2) else ((f_X1_becomes 1 0 q_2.2).bind (fun q_3 => g_X6_uses_41 am_fu a1 a2 0 q_3)))))
noncomputable def fl_X6_uses : List AV → HP → Option (Int32 × HP) := fun as h => match as with
  | [.inr (.inr (.inl (6, 0))), .inl a1, .inl a2] => f_X6_uses a1 a2 h
  | _ => none
noncomputable def F_X6_uses : AF := .inl fl_X6_uses
set_option maxRecDepth 20000 in
theorem w_X6_uses_41 {p : Program} {l : Launch} {e : Env} {R : Room} {s : State} {m : MethodId} {args : Array Value} {below : List Frame} {meth : Method} {c : Code} {cells slots : Nat} {G : AG} {Q : (Int32 × HP) → State → Prop} (CX : am_X p l e R s m args below meth c cells slots G 5 cX6_uses RX6 am_tb P_X6_uses am_rI Q) {r : (Int32 × HP)} : ∀ (n : Nat) (a1 : Int32) (a2 : Int32) (a3 : Int32) (w1 : Int32) (h : HP), g_X6_uses_41 n a1 a2 a3 h = some r → am_W p l e R s m args below meth c cells slots G 5 (Q r) 41 [.inr (.inr (.inl (6, 0))), .inl a1, .inl w1, .inl a2, .inl a3] [] h := by
  intro n
  induction n with
  | zero =>
    intro a1 a2 a3 w1 h q
    have q9 : (none : Option (Int32 × HP)) = some r := q
    cases q9
  | succ n ih =>
    intro a1 a2 a3 w1 h q
    exact am_run_ok CX ok_X6_uses (K := [(41, pk_X6_uses_41 (g_X6_uses_41 n))]) (am_K1 (Wp := am_W p l e R s m args below meth c cells slots G 5 (Q r)) (pk_X6_uses_41_ok (Wp := am_W p l e R s m args below meth c cells slots G 5 (Q r) 41) ih) am_K0) 29 41 _ _ _ q
set_option maxRecDepth 20000 in
theorem w_X6_uses_18 {p : Program} {l : Launch} {e : Env} {R : Room} {s : State} {m : MethodId} {args : Array Value} {below : List Frame} {meth : Method} {c : Code} {cells slots : Nat} {G : AG} {Q : (Int32 × HP) → State → Prop} (CX : am_X p l e R s m args below meth c cells slots G 5 cX6_uses RX6 am_tb P_X6_uses am_rI Q) {r : (Int32 × HP)} : ∀ (w1 : Int32) (w2 : Int32) (h : HP), g_X6_uses_18 h = some r → am_W p l e R s m args below meth c cells slots G 5 (Q r) 18 [.inr (.inr (.inl (6, 0))), .inl w1, .inl w2, .inr (.inr (.inr ())), .inr (.inr (.inr ()))] [] h := by
  intro w1 w2 h q
  exact am_run_ok CX ok_X6_uses (K := []) (am_K0 (Wp := am_W p l e R s m args below meth c cells slots G 5 (Q r))) 7 18 _ _ _ q
set_option maxRecDepth 20000 in
theorem b_X6_uses (l : Launch) (G : AG) : am_B l G 5 cX6_uses RX6 am_tb P_X6_uses am_rI fl_X6_uses := by
  intro p e R s m args below meth c cells slots Q CX as h r q
  unfold fl_X6_uses at q
  split at q
  · exact am_run_ok CX ok_X6_uses (K := [(18, pk_X6_uses_18 (g_X6_uses_18)), (41, pk_X6_uses_41 (g_X6_uses_41 am_fu))]) (am_K1 (Wp := am_W p l e R s m args below meth c cells slots G 5 (Q r)) (pk_X6_uses_18_ok (Wp := am_W p l e R s m args below meth c cells slots G 5 (Q r) 18) (w_X6_uses_18 CX)) (am_K1 (Wp := am_W p l e R s m args below meth c cells slots G 5 (Q r)) (pk_X6_uses_41_ok (Wp := am_W p l e R s m args below meth c cells slots G 5 (Q r) 41) (w_X6_uses_41 CX am_fu)) am_K0)) 20 0 _ _ _ q
  · cases q
theorem s_X6_uses : ∀ as h x, fl_X6_uses as h = some x → (∀ k, (some 6 : Option Nat) = some k → ∃ (j : Nat) (as' : List AV), as = .inr (.inr (.inl (k, j))) :: as') ∧ (am_l0 as).length ≤ 5 := by
  intro as h x q
  unfold fl_X6_uses at q
  split at q
  · exact ⟨fun k e => by cases e; exact ⟨_, _, rfl⟩, Nat.le_of_ble_eq_true rfl⟩
  · cases q
theorem M_X6_uses (l : Launch) (G : AG) : am_M l G yX6_uses cX6_uses 5 (some .int) 4 93 (some 6) F_X6_uses := am_M_of (f := fl_X6_uses) (toR := fun x => (some (.inl x.1), x.2)) (P := P_X6_uses) (Rr := am_rI) (own := RX6) (by decide) rfl (fun _ _ => rfl) s_X6_uses am_wrI am_rkI pf_RX6 pk_RX6 ps_RX6 (List.forall_mem_cons.mpr ⟨cv_RX6_57 l G (by decide) (by decide), (List.forall_mem_cons.mpr ⟨cv_RX6_70 l G (by decide) (by decide), (List.forall_mem_cons.mpr ⟨cv_RX6_121 l G (by decide) (by decide), (List.forall_mem_cons.mpr ⟨cv_RX6_125 l G (by decide) (by decide), (List.forall_mem_cons.mpr ⟨cv_RX6_176 l G (by decide) (by decide), (List.forall_mem_cons.mpr ⟨cv_RX6_200 l G (by decide) (by decide), (fun _ q => by cases q)⟩)⟩)⟩)⟩)⟩)⟩) (List.forall_mem_cons.mpr ⟨cs_RX6_53 l G (by decide) (by decide), (fun _ q => by cases q)⟩) (fun _ q => by cases q) (b_X6_uses l G)
theorem cv_RX6_235 (l : Launch) (G : AG) {fr lo : Nat} (h1 : 0 + 1 ≤ fr) (h2 : 8 + (2 + 11) + 0 ≤ lo) : am_cvOK l G RX6 fr lo (235, 2, F_X4_hasPlaceFor) := ⟨yX4_hasPlaceFor, cX4_hasPlaceFor, 2, (some .boolean), 0, 0, 4, RX4, M_X4_hasPlaceFor l G, ⟨(am_tb_mem (wd_12 _ (List.mem_of_getElem? (i := 8) rfl))), (am_tb_mem (wd_12 _ (List.mem_of_getElem? (i := 9) rfl))), (am_tb_mem (wd_12 _ (List.mem_of_getElem? (i := 10) rfl))), (am_tb_mem (wd_1 _ (List.mem_of_getElem? (i := 23) rfl))), (am_tb_mem (wd_12 _ (List.mem_of_getElem? (i := 11) rfl)))⟩, ⟨rfl, by decide, by decide, by decide +kernel⟩, Or.inl ⟨by decide, rfl⟩, h1, h2⟩
theorem cv_RX6_238 (l : Launch) (G : AG) {fr lo : Nat} (h1 : 0 + 1 ≤ fr) (h2 : 8 + (2 + 11) + 0 ≤ lo) : am_cvOK l G RX6 fr lo (238, 2, F_X4_add) := ⟨yX4_add, cX4_add, 2, none, 0, 0, 4, RX4, M_X4_add l G, ⟨(am_tb_mem (wd_12 _ (List.mem_of_getElem? (i := 12) rfl))), (am_tb_mem (wd_12 _ (List.mem_of_getElem? (i := 13) rfl))), (am_tb_mem (wd_12 _ (List.mem_of_getElem? (i := 14) rfl))), (am_tb_mem (wd_1 _ (List.mem_of_getElem? (i := 23) rfl))), (am_tb_mem (wd_12 _ (List.mem_of_getElem? (i := 15) rfl)))⟩, ⟨rfl, by decide, by decide, by decide +kernel⟩, Or.inl ⟨by decide, rfl⟩, h1, h2⟩
def C_X6_feed : List AC := [(0, .iload_n 2, 1, []), (1, .iconst 1, 2, []), (2, .if_icmp .lt 8, 5, [10]), (5, .iload_n 2, 6, []), (6, .iconst 4, 7, []), (7, .if_icmp .le 10, 10, [17]), (10, .aload_n 0, 11, []), (11, .ldc 56, 13, []), (13, .invokevirtual 57, 16, []), (16, .ireturn, 17, []), (17, .aload_n 0, 18, []), (18, .getfield 25, 21, []), (21, .iload_n 2, 22, []), (22, .invokevirtual 235, 25, []), (25, .ifCond .ne 10, 28, [35]), (28, .aload_n 0, 29, []), (29, .ldc 65, 31, []), (31, .invokevirtual 57, 34, []), (34, .ireturn, 35, []), (35, .iload_n 2, 36, []), (36, .iconst 1, 37, []), (37, .isub, 38, []), (38, .istore_n 3, 39, []), (39, .iload_n 3, 40, []), (40, .ifCond .lt 26, 43, [66]), (43, .aload_n 0, 44, []), (44, .getfield 25, 47, []), (47, .iload_n 1, 48, []), (48, .bipush 8, 50, []), (50, .iload_n 3, 51, []), (51, .imul, 52, []), (52, .ishr, 53, []), (53, .sipush 255, 56, []), (56, .iand, 57, []), (57, .invokevirtual 238, 60, []), (60, .iinc 3 (-1), 63, []), (63, .goto (-24), 66, [39]), (66, .aload_n 0, 67, []), (67, .getfield 25, 70, []), (70, .getfield 241, 73, []), (73, .ireturn, 74, [])]
theorem ok_X6_feed : ∀ x ∈ C_X6_feed, am_ok cX6_feed 4 x = true := by decide +kernel
noncomputable def P_X6_feed : AP := (PF_RX6, PK_RX6, PS_RX6, [(57, 2, F_X6_tell), (235, 2, F_X4_hasPlaceFor), (238, 2, F_X4_add)], [], [])
noncomputable def g_X6_feed_39  : Nat → Int32 → Int32 → HP → Option (Int32 × HP)
  | 0, _, _, _ => none
  | n + 1, a1, a2, h => if a2 < (0 : Int32) then (some (h_rI h 4 0 1, h)) else ((f_X4_add ((a1 >>> ((8 * a2) &&& 31)) &&& 255) h).bind (fun q_1 => g_X6_feed_39 n a1 (a2 + (-1)) q_1))
def pk_X6_feed_39 (k : Int32 → Int32 → HP → Option (Int32 × HP)) : List AV → List AV → HP → Option (Int32 × HP) := fun L st h => match L, st with
  | [.inr (.inr (.inl (6, 0))), .inl a1, .inl _, .inl a2], [] => k a1 a2 h
  | _, _ => none
theorem pk_X6_feed_39_ok {Wp : List AV → List AV → HP → Prop} {r : (Int32 × HP)} {k : Int32 → Int32 → HP → Option (Int32 × HP)} (hk : ∀ (a1 : Int32) (a2 : Int32) (w1 : Int32) (h : HP), k a1 a2 h = some r → Wp [.inr (.inr (.inl (6, 0))), .inl a1, .inl w1, .inl a2] [] h) : ∀ L st h, pk_X6_feed_39 k L st h = some r → Wp L st h := by
  intro L st h q
  unfold pk_X6_feed_39 at q
  split at q
  · exact hk _ _ _ _ q
  · cases q
noncomputable def g_X6_feed_10  (h : HP) : Option (Int32 × HP) := (f_X6_tell ((-1000000001)) h).bind (fun q_1 => some (q_1.1, q_1.2))
def pk_X6_feed_10 (k : HP → Option (Int32 × HP)) : List AV → List AV → HP → Option (Int32 × HP) := fun L st h => match L, st with
  | [.inr (.inr (.inl (6, 0))), .inl _, .inl _, .inr (.inr (.inr ()))], [] => k h
  | _, _ => none
theorem pk_X6_feed_10_ok {Wp : List AV → List AV → HP → Prop} {r : (Int32 × HP)} {k : HP → Option (Int32 × HP)} (hk : ∀ (w1 : Int32) (w2 : Int32) (h : HP), k h = some r → Wp [.inr (.inr (.inl (6, 0))), .inl w1, .inl w2, .inr (.inr (.inr ()))] [] h) : ∀ L st h, pk_X6_feed_10 k L st h = some r → Wp L st h := by
  intro L st h q
  unfold pk_X6_feed_10 at q
  split at q
  · exact hk _ _ _ q
  · cases q
noncomputable def f_X6_feed (a1 : Int32) (a2 : Int32) (h : HP) : Option (Int32 × HP) := if a2 < (1 : Int32) then (g_X6_feed_10 h) else (if a2 ≤ (4 : Int32) then ((f_X4_hasPlaceFor a2 h).bind (fun q_1 => if q_1.1 = (0 : Int32) then ((f_X6_tell ((-1000000002)) q_1.2).bind (fun q_2 => some (q_2.1, q_2.2))) else (g_X6_feed_39 am_fu a1 (a2 - 1) q_1.2))) else (g_X6_feed_10 h))
noncomputable def fl_X6_feed : List AV → HP → Option (Int32 × HP) := fun as h => match as with
  | [.inr (.inr (.inl (6, 0))), .inl a1, .inl a2] => f_X6_feed a1 a2 h
  | _ => none
noncomputable def F_X6_feed : AF := .inl fl_X6_feed
set_option maxRecDepth 20000 in
theorem w_X6_feed_39 {p : Program} {l : Launch} {e : Env} {R : Room} {s : State} {m : MethodId} {args : Array Value} {below : List Frame} {meth : Method} {c : Code} {cells slots : Nat} {G : AG} {Q : (Int32 × HP) → State → Prop} (CX : am_X p l e R s m args below meth c cells slots G 4 cX6_feed RX6 am_tb P_X6_feed am_rI Q) {r : (Int32 × HP)} : ∀ (n : Nat) (a1 : Int32) (a2 : Int32) (w1 : Int32) (h : HP), g_X6_feed_39 n a1 a2 h = some r → am_W p l e R s m args below meth c cells slots G 4 (Q r) 39 [.inr (.inr (.inl (6, 0))), .inl a1, .inl w1, .inl a2] [] h := by
  intro n
  induction n with
  | zero =>
    intro a1 a2 w1 h q
    have q9 : (none : Option (Int32 × HP)) = some r := q
    cases q9
  | succ n ih =>
    intro a1 a2 w1 h q
    exact am_run_ok CX ok_X6_feed (K := [(39, pk_X6_feed_39 (g_X6_feed_39 n))]) (am_K1 (Wp := am_W p l e R s m args below meth c cells slots G 4 (Q r)) (pk_X6_feed_39_ok (Wp := am_W p l e R s m args below meth c cells slots G 4 (Q r) 39) ih) am_K0) 17 39 _ _ _ q
set_option maxRecDepth 20000 in
theorem w_X6_feed_10 {p : Program} {l : Launch} {e : Env} {R : Room} {s : State} {m : MethodId} {args : Array Value} {below : List Frame} {meth : Method} {c : Code} {cells slots : Nat} {G : AG} {Q : (Int32 × HP) → State → Prop} (CX : am_X p l e R s m args below meth c cells slots G 4 cX6_feed RX6 am_tb P_X6_feed am_rI Q) {r : (Int32 × HP)} : ∀ (w1 : Int32) (w2 : Int32) (h : HP), g_X6_feed_10 h = some r → am_W p l e R s m args below meth c cells slots G 4 (Q r) 10 [.inr (.inr (.inl (6, 0))), .inl w1, .inl w2, .inr (.inr (.inr ()))] [] h := by
  intro w1 w2 h q
  exact am_run_ok CX ok_X6_feed (K := []) (am_K0 (Wp := am_W p l e R s m args below meth c cells slots G 4 (Q r))) 7 10 _ _ _ q
set_option maxRecDepth 20000 in
theorem b_X6_feed (l : Launch) (G : AG) : am_B l G 4 cX6_feed RX6 am_tb P_X6_feed am_rI fl_X6_feed := by
  intro p e R s m args below meth c cells slots Q CX as h r q
  unfold fl_X6_feed at q
  split at q
  · exact am_run_ok CX ok_X6_feed (K := [(10, pk_X6_feed_10 (g_X6_feed_10)), (39, pk_X6_feed_39 (g_X6_feed_39 am_fu))]) (am_K1 (Wp := am_W p l e R s m args below meth c cells slots G 4 (Q r)) (pk_X6_feed_10_ok (Wp := am_W p l e R s m args below meth c cells slots G 4 (Q r) 10) (w_X6_feed_10 CX)) (am_K1 (Wp := am_W p l e R s m args below meth c cells slots G 4 (Q r)) (pk_X6_feed_39_ok (Wp := am_W p l e R s m args below meth c cells slots G 4 (Q r) 39) (w_X6_feed_39 CX am_fu)) am_K0)) 18 0 _ _ _ q
  · cases q
theorem s_X6_feed : ∀ as h x, fl_X6_feed as h = some x → (∀ k, (some 6 : Option Nat) = some k → ∃ (j : Nat) (as' : List AV), as = .inr (.inr (.inl (k, j))) :: as') ∧ (am_l0 as).length ≤ 4 := by
  intro as h x q
  unfold fl_X6_feed at q
  split at q
  · exact ⟨fun k e => by cases e; exact ⟨_, _, rfl⟩, Nat.le_of_ble_eq_true rfl⟩
  · cases q
theorem M_X6_feed (l : Launch) (G : AG) : am_M l G yX6_feed cX6_feed 4 (some .int) 1 22 (some 6) F_X6_feed := am_M_of (f := fl_X6_feed) (toR := fun x => (some (.inl x.1), x.2)) (P := P_X6_feed) (Rr := am_rI) (own := RX6) (by decide) rfl (fun _ _ => rfl) s_X6_feed am_wrI am_rkI pf_RX6 pk_RX6 ps_RX6 (List.forall_mem_cons.mpr ⟨cv_RX6_57 l G (by decide) (by decide), (List.forall_mem_cons.mpr ⟨cv_RX6_235 l G (by decide) (by decide), (List.forall_mem_cons.mpr ⟨cv_RX6_238 l G (by decide) (by decide), (fun _ q => by cases q)⟩)⟩)⟩) (fun _ q => by cases q) (fun _ q => by cases q) (b_X6_feed l G)
theorem cv_RX6_244 (l : Launch) (G : AG) {fr lo : Nat} (h1 : 0 + 1 ≤ fr) (h2 : 8 + (2 + 11) + 0 ≤ lo) : am_cvOK l G RX6 fr lo (244, 1, F_X4_clear) := ⟨yX4_clear, cX4_clear, 2, (some .int), 0, 0, 4, RX4, M_X4_clear l G, ⟨(am_tb_mem (wd_12 _ (List.mem_of_getElem? (i := 20) rfl))), (am_tb_mem (wd_12 _ (List.mem_of_getElem? (i := 21) rfl))), (am_tb_mem (wd_12 _ (List.mem_of_getElem? (i := 22) rfl))), (am_tb_mem (wd_1 _ (List.mem_of_getElem? (i := 23) rfl))), (am_tb_mem (wd_12 _ (List.mem_of_getElem? (i := 23) rfl)))⟩, ⟨rfl, by decide, by decide, by decide +kernel⟩, Or.inl ⟨by decide, rfl⟩, h1, h2⟩
def C_X6_wipe : List AC := [(0, .aload_n 0, 1, []), (1, .getfield 25, 4, []), (4, .invokevirtual 244, 7, []), (7, .ireturn, 8, [])]
theorem ok_X6_wipe : ∀ x ∈ C_X6_wipe, am_ok cX6_wipe 1 x = true := by decide +kernel
noncomputable def P_X6_wipe : AP := (PF_RX6, PK_RX6, PS_RX6, [(244, 1, F_X4_clear)], [], [])
noncomputable def f_X6_wipe  (h : HP) : Option (Int32 × HP) := (f_X4_clear h).bind (fun q_1 => some (q_1.1, q_1.2))
noncomputable def fl_X6_wipe : List AV → HP → Option (Int32 × HP) := fun as h => match as with
  | [.inr (.inr (.inl (6, 0)))] => f_X6_wipe h
  | _ => none
noncomputable def F_X6_wipe : AF := .inl fl_X6_wipe
set_option maxRecDepth 20000 in
theorem b_X6_wipe (l : Launch) (G : AG) : am_B l G 1 cX6_wipe RX6 am_tb P_X6_wipe am_rI fl_X6_wipe := by
  intro p e R s m args below meth c cells slots Q CX as h r q
  unfold fl_X6_wipe at q
  split at q
  · exact am_run_ok CX ok_X6_wipe (K := []) (am_K0 (Wp := am_W p l e R s m args below meth c cells slots G 1 (Q r))) 7 0 _ _ _ q
  · cases q
theorem s_X6_wipe : ∀ as h x, fl_X6_wipe as h = some x → (∀ k, (some 6 : Option Nat) = some k → ∃ (j : Nat) (as' : List AV), as = .inr (.inr (.inl (k, j))) :: as') ∧ (am_l0 as).length ≤ 1 := by
  intro as h x q
  unfold fl_X6_wipe at q
  split at q
  · exact ⟨fun k e => by cases e; exact ⟨_, _, rfl⟩, Nat.le_of_ble_eq_true rfl⟩
  · cases q
theorem M_X6_wipe (l : Launch) (G : AG) : am_M l G yX6_wipe cX6_wipe 1 (some .int) 1 21 (some 6) F_X6_wipe := am_M_of (f := fl_X6_wipe) (toR := fun x => (some (.inl x.1), x.2)) (P := P_X6_wipe) (Rr := am_rI) (own := RX6) (by decide) rfl (fun _ _ => rfl) s_X6_wipe am_wrI am_rkI pf_RX6 pk_RX6 ps_RX6 (List.forall_mem_cons.mpr ⟨cv_RX6_244 l G (by decide) (by decide), (fun _ q => by cases q)⟩) (fun _ q => by cases q) (fun _ q => by cases q) (b_X6_wipe l G)
theorem cv_RX6_247 (l : Launch) (G : AG) {fr lo : Nat} (h1 : 8 + 1 ≤ fr) (h2 : 8 + (2 + 11) + 173 ≤ lo) : am_cvOK l G RX6 fr lo (247, 1, F_X5_parse) := ⟨yX5_parse, cX5_parse, 2, (some .int), 8, 173, 5, RX5, M_X5_parse l G, ⟨(am_tb_mem (wd_12 _ (List.mem_of_getElem? (i := 28) rfl))), (am_tb_mem (wd_12 _ (List.mem_of_getElem? (i := 29) rfl))), (am_tb_mem (wd_12 _ (List.mem_of_getElem? (i := 30) rfl))), (am_tb_mem (wd_1 _ (List.mem_of_getElem? (i := 24) rfl))), (am_tb_mem (wd_12 _ (List.mem_of_getElem? (i := 31) rfl)))⟩, ⟨rfl, by decide, by decide, by decide +kernel⟩, Or.inl ⟨by decide, rfl⟩, h1, h2⟩
def C_X6_house : List AC := [(0, .aload_n 0, 1, []), (1, .getfield 16, 4, []), (4, .aload_n 0, 5, []), (5, .getfield 10, 8, []), (8, .invokevirtual 200, 11, []), (11, .aload_n 0, 12, []), (12, .getfield 34, 15, []), (15, .invokevirtual 247, 18, []), (18, .istore_n 1, 19, []), (19, .aload_n 0, 20, []), (20, .getfield 25, 23, []), (23, .invokevirtual 244, 26, []), (26, .pop, 27, []), (27, .iload_n 1, 28, []), (28, .ifCond .lt 14, 31, [42]), (31, .aload_n 0, 32, []), (32, .getfield 10, 35, []), (35, .aload_n 0, 36, []), (36, .getfield 16, 39, []), (39, .invokevirtual 200, 42, []), (42, .iload_n 1, 43, []), (43, .ireturn, 44, [])]
theorem ok_X6_house : ∀ x ∈ C_X6_house, am_ok cX6_house 2 x = true := by decide +kernel
noncomputable def P_X6_house : AP := (PF_RX6, PK_RX6, PS_RX6, [(200, 2, F_X1_becomes), (244, 1, F_X4_clear), (247, 1, F_X5_parse)], [], [])
noncomputable def f_X6_house  (h : HP) : Option (Int32 × HP) := (f_X1_becomes 1 0 h).bind (fun q_1 => (f_X5_parse q_1).bind (fun q_2 => (f_X4_clear q_2.2).bind (fun q_3 => if q_2.1 < (0 : Int32) then (some (q_2.1, q_3.2)) else ((f_X1_becomes 0 1 q_3.2).bind (fun q_4 => some (q_2.1, q_4))))))
noncomputable def fl_X6_house : List AV → HP → Option (Int32 × HP) := fun as h => match as with
  | [.inr (.inr (.inl (6, 0)))] => f_X6_house h
  | _ => none
noncomputable def F_X6_house : AF := .inl fl_X6_house
set_option maxRecDepth 20000 in
theorem b_X6_house (l : Launch) (G : AG) : am_B l G 2 cX6_house RX6 am_tb P_X6_house am_rI fl_X6_house := by
  intro p e R s m args below meth c cells slots Q CX as h r q
  unfold fl_X6_house at q
  split at q
  · exact am_run_ok CX ok_X6_house (K := []) (am_K0 (Wp := am_W p l e R s m args below meth c cells slots G 2 (Q r))) 25 0 _ _ _ q
  · cases q
theorem s_X6_house : ∀ as h x, fl_X6_house as h = some x → (∀ k, (some 6 : Option Nat) = some k → ∃ (j : Nat) (as' : List AV), as = .inr (.inr (.inl (k, j))) :: as') ∧ (am_l0 as).length ≤ 2 := by
  intro as h x q
  unfold fl_X6_house at q
  split at q
  · exact ⟨fun k e => by cases e; exact ⟨_, _, rfl⟩, Nat.le_of_ble_eq_true rfl⟩
  · cases q
theorem M_X6_house (l : Launch) (G : AG) : am_M l G yX6_house cX6_house 2 (some .int) 9 194 (some 6) F_X6_house := am_M_of (f := fl_X6_house) (toR := fun x => (some (.inl x.1), x.2)) (P := P_X6_house) (Rr := am_rI) (own := RX6) (by decide) rfl (fun _ _ => rfl) s_X6_house am_wrI am_rkI pf_RX6 pk_RX6 ps_RX6 (List.forall_mem_cons.mpr ⟨cv_RX6_200 l G (by decide) (by decide), (List.forall_mem_cons.mpr ⟨cv_RX6_244 l G (by decide) (by decide), (List.forall_mem_cons.mpr ⟨cv_RX6_247 l G (by decide) (by decide), (fun _ q => by cases q)⟩)⟩)⟩) (fun _ q => by cases q) (fun _ q => by cases q) (b_X6_house l G)
def C_X6_isSheet : List AC := [(0, .iload_n 0, 1, []), (1, .ifCond .lt 12, 4, [13]), (4, .iload_n 0, 5, []), (5, .iconst 4, 6, []), (6, .if_icmp .ge 7, 9, [13]), (9, .iconst 1, 10, []), (10, .goto 4, 13, [14]), (13, .iconst 0, 14, []), (14, .ireturn, 15, [])]
theorem ok_X6_isSheet : ∀ x ∈ C_X6_isSheet, am_ok cX6_isSheet 1 x = true := by decide +kernel
noncomputable def P_X6_isSheet : AP := (PF_RX6, PK_RX6, PS_RX6, [], [], [])
noncomputable def f_X6_isSheet (a1 : Int32) (h : HP) : Option (Int32 × HP) := if a1 < (0 : Int32) then (some (0, h)) else (if (4 : Int32) ≤ a1 then (some (0, h)) else (some (1, h)))
noncomputable def fl_X6_isSheet : List AV → HP → Option (Int32 × HP) := fun as h => match as with
  | [.inl a1] => f_X6_isSheet a1 h
  | _ => none
noncomputable def F_X6_isSheet : AF := .inl fl_X6_isSheet
set_option maxRecDepth 20000 in
theorem b_X6_isSheet (l : Launch) (G : AG) : am_B l G 1 cX6_isSheet RX6 am_tb P_X6_isSheet am_rZ fl_X6_isSheet := by
  intro p e R s m args below meth c cells slots Q CX as h r q
  unfold fl_X6_isSheet at q
  split at q
  · exact am_run_ok CX ok_X6_isSheet (K := []) (am_K0 (Wp := am_W p l e R s m args below meth c cells slots G 1 (Q r))) 11 0 _ _ _ q
  · cases q
theorem s_X6_isSheet : ∀ as h x, fl_X6_isSheet as h = some x → (∀ k, (none : Option Nat) = some k → ∃ (j : Nat) (as' : List AV), as = .inr (.inr (.inl (k, j))) :: as') ∧ (am_l0 as).length ≤ 1 := by
  intro as h x q
  unfold fl_X6_isSheet at q
  split at q
  · exact ⟨fun k e => (by cases e), Nat.le_of_ble_eq_true rfl⟩
  · cases q
theorem M_X6_isSheet (l : Launch) (G : AG) : am_M l G yX6_isSheet cX6_isSheet 1 (some .boolean) 0 0 none F_X6_isSheet := am_M_of (f := fl_X6_isSheet) (toR := fun x => (some (.inl x.1), x.2)) (P := P_X6_isSheet) (Rr := am_rZ) (own := RX6) (by decide) rfl (fun _ _ => rfl) s_X6_isSheet am_wrI am_rkZ pf_RX6 pk_RX6 ps_RX6 (fun _ q => by cases q) (fun _ q => by cases q) (fun _ q => by cases q) (b_X6_isSheet l G)
theorem cv_RX6_254 (l : Launch) (G : AG) {fr lo : Nat} (h1 : 0 + 1 ≤ fr) (h2 : 8 + (4 + 11) + 0 ≤ lo) : am_cvOK l G RX6 fr lo (254, 3, F_X3_start) := ⟨yX3_start, cX3_start, 4, none, 0, 0, 3, RX3, M_X3_start l G, ⟨(am_tb_mem (wd_14 _ (List.mem_of_getElem? (i := 28) rfl))), (am_tb_mem (wd_14 _ (List.mem_of_getElem? (i := 29) rfl))), (am_tb_mem (wd_14 _ (List.mem_of_getElem? (i := 30) rfl))), (am_tb_mem (wd_1 _ (List.mem_of_getElem? (i := 25) rfl))), (am_tb_mem (wd_14 _ (List.mem_of_getElem? (i := 31) rfl)))⟩, ⟨rfl, by decide, by decide, by decide +kernel⟩, Or.inl ⟨by decide, rfl⟩, h1, h2⟩
theorem cs_RX6_250 (l : Launch) (G : AG) {fr lo : Nat} (h1 : 0 + 1 ≤ fr) (h2 : 8 + (1 + 11) + 0 ≤ lo) : am_csOK l G RX6 fr lo (250, 1, F_X6_isSheet) := Or.inl ⟨yX6_isSheet, cX6_isSheet, 1, (some .boolean), 0, 0, M_X6_isSheet l G, ⟨(am_tb_mem (wd_14 _ (List.mem_of_getElem? (i := 24) rfl))), (am_tb_mem (wd_14 _ (List.mem_of_getElem? (i := 25) rfl))), (am_tb_mem (wd_1 _ (List.mem_of_getElem? (i := 19) rfl))), (am_tb_mem (wd_14 _ (List.mem_of_getElem? (i := 26) rfl)))⟩, ⟨by decide, by decide, by decide +kernel⟩, h1, h2⟩
def C_X6_sheet : List AC := [(0, .iload_n 1, 1, []), (1, .invokestatic 250, 4, []), (4, .ifCond .eq 25, 7, [29]), (7, .iload_n 2, 8, []), (8, .ifCond .eq 28, 11, [36]), (11, .iload_n 2, 12, []), (12, .bipush 8, 14, []), (14, .if_icmp .eq 22, 17, [36]), (17, .iload_n 2, 18, []), (18, .bipush 16, 20, []), (20, .if_icmp .eq 16, 23, [36]), (23, .iload_n 2, 24, []), (24, .bipush 64, 26, []), (26, .if_icmp .eq 10, 29, [36]), (29, .aload_n 0, 30, []), (30, .ldc 56, 32, []), (32, .invokevirtual 57, 35, []), (35, .ireturn, 36, []), (36, .iload_n 3, 37, []), (37, .ifCond .ge 10, 40, [47]), (40, .aload_n 0, 41, []), (41, .ldc 253, 43, []), (43, .invokevirtual 57, 46, []), (46, .ireturn, 47, []), (47, .iload_n 3, 48, []), (48, .bipush 40, 50, []), (50, .if_icmp .le 10, 53, [60]), (53, .aload_n 0, 54, []), (54, .ldc 56, 56, []), (56, .invokevirtual 57, 59, []), (59, .ireturn, 60, []), (60, .aload_n 0, 61, []), (61, .getfield 40, 64, []), (64, .iload_n 1, 65, []), (65, .aaload, 66, []), (66, .iload_n 2, 67, []), (67, .iload_n 2, 68, []), (68, .ifCond .ne 7, 71, [75]), (71, .iconst 0, 72, []), (72, .goto 4, 75, [76]), (75, .iload_n 3, 76, []), (76, .invokevirtual 254, 79, []), (79, .aload_n 0, 80, []), (80, .getfield 40, 83, []), (83, .iload_n 1, 84, []), (84, .aaload, 85, []), (85, .getfield 258, 88, []), (88, .ireturn, 89, [])]
theorem ok_X6_sheet : ∀ x ∈ C_X6_sheet, am_ok cX6_sheet 4 x = true := by decide +kernel
noncomputable def P_X6_sheet : AP := (PF_RX6, PK_RX6, PS_RX6, [(57, 2, F_X6_tell), (254, 3, F_X3_start)], [(250, 1, F_X6_isSheet)], [])
noncomputable def g_X6_sheet_76 (a1 : Int32) (a2 : Nat) (a3 : Int32) (a4 : Int32) (h : HP) : Option (Int32 × HP) := (f_X3_start a2 a3 a4 h).bind (fun q_1 => (am_ix a1 4).bind (fun k_2 => some (h_rI q_1 3 k_2 1, q_1)))
def pk_X6_sheet_76 (k : Int32 → Nat → Int32 → Int32 → HP → Option (Int32 × HP)) : List AV → List AV → HP → Option (Int32 × HP) := fun L st h => match L, st with
  | [.inr (.inr (.inl (6, 0))), .inl a1, .inl _, .inl _], [.inl a4, .inl a3, .inr (.inr (.inl (3, a2)))] => k a1 a2 a3 a4 h
  | _, _ => none
theorem pk_X6_sheet_76_ok {Wp : List AV → List AV → HP → Prop} {r : (Int32 × HP)} {k : Int32 → Nat → Int32 → Int32 → HP → Option (Int32 × HP)} (hk : ∀ (a1 : Int32) (a2 : Nat) (a3 : Int32) (a4 : Int32) (w1 : Int32) (w2 : Int32) (h : HP), k a1 a2 a3 a4 h = some r → Wp [.inr (.inr (.inl (6, 0))), .inl a1, .inl w1, .inl w2] [.inl a4, .inl a3, .inr (.inr (.inl (3, a2)))] h) : ∀ L st h, pk_X6_sheet_76 k L st h = some r → Wp L st h := by
  intro L st h q
  unfold pk_X6_sheet_76 at q
  split at q
  · exact hk _ _ _ _ _ _ _ q
  · cases q
noncomputable def g_X6_sheet_36 (a1 : Int32) (a2 : Int32) (a3 : Int32) (h : HP) : Option (Int32 × HP) := if (0 : Int32) ≤ a3 then (if a3 ≤ (40 : Int32) then ((am_ix a1 4).bind (fun k_1 => if a2 = (0 : Int32) then (g_X6_sheet_76 a1 k_1 a2 0 h) else (g_X6_sheet_76 a1 k_1 a2 a3 h))) else ((f_X6_tell ((-1000000001)) h).bind (fun q_2 => some (q_2.1, q_2.2)))) else ((f_X6_tell ((-1000000007)) h).bind (fun q_3 => some (q_3.1, q_3.2)))
def pk_X6_sheet_36 (k : Int32 → Int32 → Int32 → HP → Option (Int32 × HP)) : List AV → List AV → HP → Option (Int32 × HP) := fun L st h => match L, st with
  | [.inr (.inr (.inl (6, 0))), .inl a1, .inl a2, .inl a3], [] => k a1 a2 a3 h
  | _, _ => none
theorem pk_X6_sheet_36_ok {Wp : List AV → List AV → HP → Prop} {r : (Int32 × HP)} {k : Int32 → Int32 → Int32 → HP → Option (Int32 × HP)} (hk : ∀ (a1 : Int32) (a2 : Int32) (a3 : Int32) (h : HP), k a1 a2 a3 h = some r → Wp [.inr (.inr (.inl (6, 0))), .inl a1, .inl a2, .inl a3] [] h) : ∀ L st h, pk_X6_sheet_36 k L st h = some r → Wp L st h := by
  intro L st h q
  unfold pk_X6_sheet_36 at q
  split at q
  · exact hk _ _ _ _ q
  · cases q
noncomputable def g_X6_sheet_29  (h : HP) : Option (Int32 × HP) := (f_X6_tell ((-1000000001)) h).bind (fun q_1 => some (q_1.1, q_1.2))
def pk_X6_sheet_29 (k : HP → Option (Int32 × HP)) : List AV → List AV → HP → Option (Int32 × HP) := fun L st h => match L, st with
  | [.inr (.inr (.inl (6, 0))), .inl _, .inl _, .inl _], [] => k h
  | _, _ => none
theorem pk_X6_sheet_29_ok {Wp : List AV → List AV → HP → Prop} {r : (Int32 × HP)} {k : HP → Option (Int32 × HP)} (hk : ∀ (w1 : Int32) (w2 : Int32) (w3 : Int32) (h : HP), k h = some r → Wp [.inr (.inr (.inl (6, 0))), .inl w1, .inl w2, .inl w3] [] h) : ∀ L st h, pk_X6_sheet_29 k L st h = some r → Wp L st h := by
  intro L st h q
  unfold pk_X6_sheet_29 at q
  split at q
  · exact hk _ _ _ _ q
  · cases q
noncomputable def f_X6_sheet (a1 : Int32) (a2 : Int32) (a3 : Int32) (h : HP) : Option (Int32 × HP) := (f_X6_isSheet a1 h).bind (fun q_1 => if q_1.1 = (0 : Int32) then (g_X6_sheet_29 q_1.2) else (if a2 = (0 : Int32) then (g_X6_sheet_36 a1 a2 a3 q_1.2) else (if a2 = (8 : Int32) then (g_X6_sheet_36 a1 a2 a3 q_1.2) else (if a2 = (16 : Int32) then (g_X6_sheet_36 a1 a2 a3 q_1.2) else (if a2 = (64 : Int32) then (g_X6_sheet_36 a1 a2 a3 q_1.2) else (g_X6_sheet_29 q_1.2))))))
noncomputable def fl_X6_sheet : List AV → HP → Option (Int32 × HP) := fun as h => match as with
  | [.inr (.inr (.inl (6, 0))), .inl a1, .inl a2, .inl a3] => f_X6_sheet a1 a2 a3 h
  | _ => none
noncomputable def F_X6_sheet : AF := .inl fl_X6_sheet
set_option maxRecDepth 20000 in
theorem w_X6_sheet_76 {p : Program} {l : Launch} {e : Env} {R : Room} {s : State} {m : MethodId} {args : Array Value} {below : List Frame} {meth : Method} {c : Code} {cells slots : Nat} {G : AG} {Q : (Int32 × HP) → State → Prop} (CX : am_X p l e R s m args below meth c cells slots G 4 cX6_sheet RX6 am_tb P_X6_sheet am_rI Q) {r : (Int32 × HP)} : ∀ (a1 : Int32) (a2 : Nat) (a3 : Int32) (a4 : Int32) (w1 : Int32) (w2 : Int32) (h : HP), g_X6_sheet_76 a1 a2 a3 a4 h = some r → am_W p l e R s m args below meth c cells slots G 4 (Q r) 76 [.inr (.inr (.inl (6, 0))), .inl a1, .inl w1, .inl w2] [.inl a4, .inl a3, .inr (.inr (.inl (3, a2)))] h := by
  intro a1 a2 a3 a4 w1 w2 h q
  exact am_run_ok CX ok_X6_sheet (K := []) (am_K0 (Wp := am_W p l e R s m args below meth c cells slots G 4 (Q r))) 10 76 _ _ _ q
set_option maxRecDepth 20000 in
theorem w_X6_sheet_36 {p : Program} {l : Launch} {e : Env} {R : Room} {s : State} {m : MethodId} {args : Array Value} {below : List Frame} {meth : Method} {c : Code} {cells slots : Nat} {G : AG} {Q : (Int32 × HP) → State → Prop} (CX : am_X p l e R s m args below meth c cells slots G 4 cX6_sheet RX6 am_tb P_X6_sheet am_rI Q) {r : (Int32 × HP)} : ∀ (a1 : Int32) (a2 : Int32) (a3 : Int32) (h : HP), g_X6_sheet_36 a1 a2 a3 h = some r → am_W p l e R s m args below meth c cells slots G 4 (Q r) 36 [.inr (.inr (.inl (6, 0))), .inl a1, .inl a2, .inl a3] [] h := by
  intro a1 a2 a3 h q
  exact am_run_ok CX ok_X6_sheet (K := [(76, pk_X6_sheet_76 (g_X6_sheet_76))]) (am_K1 (Wp := am_W p l e R s m args below meth c cells slots G 4 (Q r)) (pk_X6_sheet_76_ok (Wp := am_W p l e R s m args below meth c cells slots G 4 (Q r) 76) (w_X6_sheet_76 CX)) am_K0) 17 36 _ _ _ q
set_option maxRecDepth 20000 in
theorem w_X6_sheet_29 {p : Program} {l : Launch} {e : Env} {R : Room} {s : State} {m : MethodId} {args : Array Value} {below : List Frame} {meth : Method} {c : Code} {cells slots : Nat} {G : AG} {Q : (Int32 × HP) → State → Prop} (CX : am_X p l e R s m args below meth c cells slots G 4 cX6_sheet RX6 am_tb P_X6_sheet am_rI Q) {r : (Int32 × HP)} : ∀ (w1 : Int32) (w2 : Int32) (w3 : Int32) (h : HP), g_X6_sheet_29 h = some r → am_W p l e R s m args below meth c cells slots G 4 (Q r) 29 [.inr (.inr (.inl (6, 0))), .inl w1, .inl w2, .inl w3] [] h := by
  intro w1 w2 w3 h q
  exact am_run_ok CX ok_X6_sheet (K := []) (am_K0 (Wp := am_W p l e R s m args below meth c cells slots G 4 (Q r))) 7 29 _ _ _ q
set_option maxRecDepth 20000 in
theorem b_X6_sheet (l : Launch) (G : AG) : am_B l G 4 cX6_sheet RX6 am_tb P_X6_sheet am_rI fl_X6_sheet := by
  intro p e R s m args below meth c cells slots Q CX as h r q
  unfold fl_X6_sheet at q
  split at q
  · exact am_run_ok CX ok_X6_sheet (K := [(29, pk_X6_sheet_29 (g_X6_sheet_29)), (36, pk_X6_sheet_36 (g_X6_sheet_36))]) (am_K1 (Wp := am_W p l e R s m args below meth c cells slots G 4 (Q r)) (pk_X6_sheet_29_ok (Wp := am_W p l e R s m args below meth c cells slots G 4 (Q r) 29) (w_X6_sheet_29 CX)) (am_K1 (Wp := am_W p l e R s m args below meth c cells slots G 4 (Q r)) (pk_X6_sheet_36_ok (Wp := am_W p l e R s m args below meth c cells slots G 4 (Q r) 36) (w_X6_sheet_36 CX)) am_K0)) 17 0 _ _ _ q
  · cases q
theorem s_X6_sheet : ∀ as h x, fl_X6_sheet as h = some x → (∀ k, (some 6 : Option Nat) = some k → ∃ (j : Nat) (as' : List AV), as = .inr (.inr (.inl (k, j))) :: as') ∧ (am_l0 as).length ≤ 4 := by
  intro as h x q
  unfold fl_X6_sheet at q
  split at q
  · exact ⟨fun k e => by cases e; exact ⟨_, _, rfl⟩, Nat.le_of_ble_eq_true rfl⟩
  · cases q
theorem M_X6_sheet (l : Launch) (G : AG) : am_M l G yX6_sheet cX6_sheet 4 (some .int) 1 23 (some 6) F_X6_sheet := am_M_of (f := fl_X6_sheet) (toR := fun x => (some (.inl x.1), x.2)) (P := P_X6_sheet) (Rr := am_rI) (own := RX6) (by decide) rfl (fun _ _ => rfl) s_X6_sheet am_wrI am_rkI pf_RX6 pk_RX6 ps_RX6 (List.forall_mem_cons.mpr ⟨cv_RX6_57 l G (by decide) (by decide), (List.forall_mem_cons.mpr ⟨cv_RX6_254 l G (by decide) (by decide), (fun _ q => by cases q)⟩)⟩) (List.forall_mem_cons.mpr ⟨cs_RX6_250 l G (by decide) (by decide), (fun _ q => by cases q)⟩) (fun _ q => by cases q) (b_X6_sheet l G)
theorem cv_RX6_261 (l : Launch) (G : AG) {fr lo : Nat} (h1 : 0 + 1 ≤ fr) (h2 : 8 + (1 + 11) + 0 ≤ lo) : am_cvOK l G RX6 fr lo (261, 1, F_X3_isMissing) := ⟨yX3_isMissing, cX3_isMissing, 1, (some .boolean), 0, 0, 3, RX3, M_X3_isMissing l G, ⟨(am_tb_mem (wd_14 _ (List.mem_of_getElem? (i := 36) rfl))), (am_tb_mem (wd_14 _ (List.mem_of_getElem? (i := 37) rfl))), (am_tb_mem (wd_14 _ (List.mem_of_getElem? (i := 38) rfl))), (am_tb_mem (wd_1 _ (List.mem_of_getElem? (i := 25) rfl))), (am_tb_mem (wd_14 _ (List.mem_of_getElem? (i := 39) rfl)))⟩, ⟨rfl, by decide, by decide, by decide +kernel⟩, Or.inl ⟨by decide, rfl⟩, h1, h2⟩
theorem cv_RX6_269 (l : Launch) (G : AG) {fr lo : Nat} (h1 : 0 + 1 ≤ fr) (h2 : 8 + (4 + 11) + 0 ≤ lo) : am_cvOK l G RX6 fr lo (269, 3, F_X3_put) := ⟨yX3_put, cX3_put, 4, none, 0, 0, 3, RX3, M_X3_put l G, ⟨(am_tb_mem (wd_15 _ (List.mem_of_getElem? (i := 1) rfl))), (am_tb_mem (wd_15 _ (List.mem_of_getElem? (i := 2) rfl))), (am_tb_mem (wd_15 _ (List.mem_of_getElem? (i := 3) rfl))), (am_tb_mem (wd_1 _ (List.mem_of_getElem? (i := 25) rfl))), (am_tb_mem (wd_15 _ (List.mem_of_getElem? (i := 4) rfl)))⟩, ⟨rfl, by decide, by decide, by decide +kernel⟩, Or.inl ⟨by decide, rfl⟩, h1, h2⟩
def C_X6_write : List AC := [(0, .iload_n 1, 1, []), (1, .invokestatic 250, 4, []), (4, .ifCond .ne 11, 7, [15]), (7, .aload_n 0, 8, []), (8, .ldc 56, 10, []), (10, .invokevirtual 57, 13, []), (13, .i2l, 14, []), (14, .lreturn, 15, []), (15, .aload_n 0, 16, []), (16, .getfield 40, 19, []), (19, .iload_n 1, 20, []), (20, .aaload, 21, []), (21, .astore 5, 23, []), (23, .aload 5, 25, []), (25, .invokevirtual 261, 28, []), (28, .ifCond .eq 12, 31, [40]), (31, .aload_n 0, 32, []), (32, .ldc_w 264, 35, []), (35, .invokevirtual 57, 38, []), (38, .i2l, 39, []), (39, .lreturn, 40, []), (40, .iload_n 2, 41, []), (41, .ifCond .lt 12, 44, [53]), (44, .iload_n 2, 45, []), (45, .aload 5, 47, []), (47, .getfield 258, 50, []), (50, .if_icmp .lt 11, 53, [61]), (53, .aload_n 0, 54, []), (54, .ldc 56, 56, []), (56, .invokevirtual 57, 59, []), (59, .i2l, 60, []), (60, .lreturn, 61, []), (61, .aload 5, 63, []), (63, .getfield 265, 66, []), (66, .iload_n 2, 67, []), (67, .laload, 68, []), (68, .lstore 6, 70, []), (70, .aload 5, 72, []), (72, .iload_n 2, 73, []), (73, .lload_n 3, 74, []), (74, .invokevirtual 269, 77, []), (77, .lload 6, 79, []), (79, .lreturn, 80, [])]
theorem ok_X6_write : ∀ x ∈ C_X6_write, am_ok cX6_write 8 x = true := by decide +kernel
noncomputable def P_X6_write : AP := (PF_RX6, PK_RX6, PS_RX6, [(57, 2, F_X6_tell), (261, 1, F_X3_isMissing), (269, 3, F_X3_put)], [(250, 1, F_X6_isSheet)], [])
noncomputable def g_X6_write_53  (h : HP) : Option (Int64 × HP) := (f_X6_tell ((-1000000001)) h).bind (fun q_1 => some (Int32.toInt64 q_1.1, q_1.2))
def pk_X6_write_53 (k : HP → Option (Int64 × HP)) : List AV → List AV → HP → Option (Int64 × HP) := fun L st h => match L, st with
  | [.inr (.inr (.inl (6, 0))), .inl _, .inl _, .inr (.inl _), .inr (.inr (.inr ())), .inr (.inr (.inl _)), .inr (.inr (.inr ())), .inr (.inr (.inr ()))], [] => k h
  | _, _ => none
theorem pk_X6_write_53_ok {Wp : List AV → List AV → HP → Prop} {r : (Int64 × HP)} {k : HP → Option (Int64 × HP)} (hk : ∀ (w1 : Int32) (w2 : Int32) (w3 : Int64) (w4 : Nat × Nat) (h : HP), k h = some r → Wp [.inr (.inr (.inl (6, 0))), .inl w1, .inl w2, .inr (.inl w3), .inr (.inr (.inr ())), .inr (.inr (.inl w4)), .inr (.inr (.inr ())), .inr (.inr (.inr ()))] [] h) : ∀ L st h, pk_X6_write_53 k L st h = some r → Wp L st h := by
  intro L st h q
  unfold pk_X6_write_53 at q
  split at q
  · exact hk _ _ _ _ _ q
  · cases q
noncomputable def f_X6_write (a1 : Int32) (a2 : Int32) (a3 : Int64) (h : HP) : Option (Int64 × HP) := (f_X6_isSheet a1 h).bind (fun q_1 => if q_1.1 = (0 : Int32) then ((f_X6_tell ((-1000000001)) q_1.2).bind (fun q_7 => some (Int32.toInt64 q_7.1, q_7.2))) else ((am_ix a1 4).bind (fun k_2 => (f_X3_isMissing k_2 q_1.2).bind (fun q_3 => if q_3.1 = (0 : Int32) then (if a2 < (0 : Int32) then (g_X6_write_53 q_3.2) else (if a2 < h_rI q_3.2 3 k_2 1 then ((am_ix a2 40).bind (fun k_4 => (f_X3_put k_2 a2 a3 q_3.2).bind (fun q_5 => some (h_rJ q_3.2 12 k_2 k_4, q_5)))) else (g_X6_write_53 q_3.2))) else ((f_X6_tell ((-1000000006)) q_3.2).bind (fun q_6 => some (Int32.toInt64 q_6.1, q_6.2)))))))
noncomputable def fl_X6_write : List AV → HP → Option (Int64 × HP) := fun as h => match as with
  | [.inr (.inr (.inl (6, 0))), .inl a1, .inl a2, .inr (.inl a3)] => f_X6_write a1 a2 a3 h
  | _ => none
noncomputable def F_X6_write : AF := .inr (.inr (.inl fl_X6_write))
set_option maxRecDepth 20000 in
theorem w_X6_write_53 {p : Program} {l : Launch} {e : Env} {R : Room} {s : State} {m : MethodId} {args : Array Value} {below : List Frame} {meth : Method} {c : Code} {cells slots : Nat} {G : AG} {Q : (Int64 × HP) → State → Prop} (CX : am_X p l e R s m args below meth c cells slots G 8 cX6_write RX6 am_tb P_X6_write am_rJ Q) {r : (Int64 × HP)} : ∀ (w1 : Int32) (w2 : Int32) (w3 : Int64) (w4 : Nat × Nat) (h : HP), g_X6_write_53 h = some r → am_W p l e R s m args below meth c cells slots G 8 (Q r) 53 [.inr (.inr (.inl (6, 0))), .inl w1, .inl w2, .inr (.inl w3), .inr (.inr (.inr ())), .inr (.inr (.inl w4)), .inr (.inr (.inr ())), .inr (.inr (.inr ()))] [] h := by
  intro w1 w2 w3 w4 h q
  exact am_run_ok CX ok_X6_write (K := []) (am_K0 (Wp := am_W p l e R s m args below meth c cells slots G 8 (Q r))) 8 53 _ _ _ q
set_option maxRecDepth 20000 in
theorem b_X6_write (l : Launch) (G : AG) : am_B l G 8 cX6_write RX6 am_tb P_X6_write am_rJ fl_X6_write := by
  intro p e R s m args below meth c cells slots Q CX as h r q
  unfold fl_X6_write at q
  split at q
  · exact am_run_ok CX ok_X6_write (K := [(53, pk_X6_write_53 (g_X6_write_53))]) (am_K1 (Wp := am_W p l e R s m args below meth c cells slots G 8 (Q r)) (pk_X6_write_53_ok (Wp := am_W p l e R s m args below meth c cells slots G 8 (Q r) 53) (w_X6_write_53 CX)) am_K0) 31 0 _ _ _ q
  · cases q
theorem s_X6_write : ∀ as h x, fl_X6_write as h = some x → (∀ k, (some 6 : Option Nat) = some k → ∃ (j : Nat) (as' : List AV), as = .inr (.inr (.inl (k, j))) :: as') ∧ (am_l0 as).length ≤ 8 := by
  intro as h x q
  unfold fl_X6_write at q
  split at q
  · exact ⟨fun k e => by cases e; exact ⟨_, _, rfl⟩, Nat.le_of_ble_eq_true rfl⟩
  · cases q
theorem M_X6_write (l : Launch) (G : AG) : am_M l G yX6_write cX6_write 8 (some .long) 1 23 (some 6) F_X6_write := am_M_of (f := fl_X6_write) (toR := fun x => (some (.inr (.inl x.1)), x.2)) (P := P_X6_write) (Rr := am_rJ) (own := RX6) (by decide) rfl (fun _ _ => rfl) s_X6_write am_wrJ am_rkJ pf_RX6 pk_RX6 ps_RX6 (List.forall_mem_cons.mpr ⟨cv_RX6_57 l G (by decide) (by decide), (List.forall_mem_cons.mpr ⟨cv_RX6_261 l G (by decide) (by decide), (List.forall_mem_cons.mpr ⟨cv_RX6_269 l G (by decide) (by decide), (fun _ q => by cases q)⟩)⟩)⟩) (List.forall_mem_cons.mpr ⟨cs_RX6_250 l G (by decide) (by decide), (fun _ q => by cases q)⟩) (fun _ q => by cases q) (b_X6_write l G)
theorem cv_RX6_276 (l : Launch) (G : AG) {fr lo : Nat} (h1 : 0 + 1 ≤ fr) (h2 : 8 + (3 + 11) + 0 ≤ lo) : am_cvOK l G RX6 fr lo (276, 3, F_X3_hasPart) := ⟨yX3_hasPart, cX3_hasPart, 3, (some .boolean), 0, 0, 3, RX3, M_X3_hasPart l G, ⟨(am_tb_mem (wd_15 _ (List.mem_of_getElem? (i := 9) rfl))), (am_tb_mem (wd_15 _ (List.mem_of_getElem? (i := 10) rfl))), (am_tb_mem (wd_15 _ (List.mem_of_getElem? (i := 11) rfl))), (am_tb_mem (wd_1 _ (List.mem_of_getElem? (i := 25) rfl))), (am_tb_mem (wd_15 _ (List.mem_of_getElem? (i := 12) rfl)))⟩, ⟨rfl, by decide, by decide, by decide +kernel⟩, Or.inl ⟨by decide, rfl⟩, h1, h2⟩
def C_X6_copy : List AC := [(0, .iload_n 1, 1, []), (1, .invokestatic 250, 4, []), (4, .ifCond .eq 10, 7, [14]), (7, .iload_n 3, 8, []), (8, .invokestatic 250, 11, []), (11, .ifCond .ne 10, 14, [21]), (14, .aload_n 0, 15, []), (15, .ldc 56, 17, []), (17, .invokevirtual 57, 20, []), (20, .ireturn, 21, []), (21, .aload_n 0, 22, []), (22, .getfield 40, 25, []), (25, .iload_n 1, 26, []), (26, .aaload, 27, []), (27, .astore 6, 29, []), (29, .aload_n 0, 30, []), (30, .getfield 40, 33, []), (33, .iload_n 3, 34, []), (34, .aaload, 35, []), (35, .astore 7, 37, []), (37, .aload 6, 39, []), (39, .invokevirtual 261, 42, []), (42, .ifCond .ne 11, 45, [53]), (45, .aload 7, 47, []), (47, .invokevirtual 261, 50, []), (50, .ifCond .eq 11, 53, [61]), (53, .aload_n 0, 54, []), (54, .ldc_w 264, 57, []), (57, .invokevirtual 57, 60, []), (60, .ireturn, 61, []), (61, .aload 6, 63, []), (63, .getfield 273, 66, []), (66, .aload 7, 68, []), (68, .getfield 273, 71, []), (71, .if_icmp .eq 10, 74, [81]), (74, .aload_n 0, 75, []), (75, .ldc 120, 77, []), (77, .invokevirtual 57, 80, []), (80, .ireturn, 81, []), (81, .aload 6, 83, []), (83, .iload_n 2, 84, []), (84, .iload 5, 86, []), (86, .invokevirtual 276, 89, []), (89, .ifCond .eq 15, 92, [104]), (92, .aload 7, 94, []), (94, .iload 4, 96, []), (96, .iload 5, 98, []), (98, .invokevirtual 276, 101, []), (101, .ifCond .ne 10, 104, [111]), (104, .aload_n 0, 105, []), (105, .ldc 56, 107, []), (107, .invokevirtual 57, 110, []), (110, .ireturn, 111, []), (111, .aload 6, 113, []), (113, .getfield 265, 116, []), (116, .iload_n 2, 117, []), (117, .aload 7, 119, []), (119, .getfield 265, 122, []), (122, .iload 4, 124, []), (124, .iload 5, 126, []), (126, .invokestatic 279, 129, []), (129, .iload 5, 131, []), (131, .ireturn, 132, [])]
theorem ok_X6_copy : ∀ x ∈ C_X6_copy, am_ok cX6_copy 8 x = true := by decide +kernel
noncomputable def P_X6_copy : AP := (PF_RX6, PK_RX6, PS_RX6, [(57, 2, F_X6_tell), (261, 1, F_X3_isMissing), (276, 3, F_X3_hasPart)], [(250, 1, F_X6_isSheet)], [(279, ())])
noncomputable def g_X6_copy_104  (h : HP) : Option (Int32 × HP) := (f_X6_tell ((-1000000001)) h).bind (fun q_1 => some (q_1.1, q_1.2))
def pk_X6_copy_104 (k : HP → Option (Int32 × HP)) : List AV → List AV → HP → Option (Int32 × HP) := fun L st h => match L, st with
  | [.inr (.inr (.inl (6, 0))), .inl _, .inl _, .inl _, .inl _, .inl _, .inr (.inr (.inl _)), .inr (.inr (.inl _))], [] => k h
  | _, _ => none
theorem pk_X6_copy_104_ok {Wp : List AV → List AV → HP → Prop} {r : (Int32 × HP)} {k : HP → Option (Int32 × HP)} (hk : ∀ (w1 : Int32) (w2 : Int32) (w3 : Int32) (w4 : Int32) (w5 : Int32) (w6 : Nat × Nat) (w7 : Nat × Nat) (h : HP), k h = some r → Wp [.inr (.inr (.inl (6, 0))), .inl w1, .inl w2, .inl w3, .inl w4, .inl w5, .inr (.inr (.inl w6)), .inr (.inr (.inl w7))] [] h) : ∀ L st h, pk_X6_copy_104 k L st h = some r → Wp L st h := by
  intro L st h q
  unfold pk_X6_copy_104 at q
  split at q
  · exact hk _ _ _ _ _ _ _ _ q
  · cases q
noncomputable def g_X6_copy_53  (h : HP) : Option (Int32 × HP) := (f_X6_tell ((-1000000006)) h).bind (fun q_1 => some (q_1.1, q_1.2))
def pk_X6_copy_53 (k : HP → Option (Int32 × HP)) : List AV → List AV → HP → Option (Int32 × HP) := fun L st h => match L, st with
  | [.inr (.inr (.inl (6, 0))), .inl _, .inl _, .inl _, .inl _, .inl _, .inr (.inr (.inl _)), .inr (.inr (.inl _))], [] => k h
  | _, _ => none
theorem pk_X6_copy_53_ok {Wp : List AV → List AV → HP → Prop} {r : (Int32 × HP)} {k : HP → Option (Int32 × HP)} (hk : ∀ (w1 : Int32) (w2 : Int32) (w3 : Int32) (w4 : Int32) (w5 : Int32) (w6 : Nat × Nat) (w7 : Nat × Nat) (h : HP), k h = some r → Wp [.inr (.inr (.inl (6, 0))), .inl w1, .inl w2, .inl w3, .inl w4, .inl w5, .inr (.inr (.inl w6)), .inr (.inr (.inl w7))] [] h) : ∀ L st h, pk_X6_copy_53 k L st h = some r → Wp L st h := by
  intro L st h q
  unfold pk_X6_copy_53 at q
  split at q
  · exact hk _ _ _ _ _ _ _ _ q
  · cases q
noncomputable def g_X6_copy_14  (h : HP) : Option (Int32 × HP) := (f_X6_tell ((-1000000001)) h).bind (fun q_1 => some (q_1.1, q_1.2))
def pk_X6_copy_14 (k : HP → Option (Int32 × HP)) : List AV → List AV → HP → Option (Int32 × HP) := fun L st h => match L, st with
  | [.inr (.inr (.inl (6, 0))), .inl _, .inl _, .inl _, .inl _, .inl _, .inr (.inr (.inr ())), .inr (.inr (.inr ()))], [] => k h
  | _, _ => none
theorem pk_X6_copy_14_ok {Wp : List AV → List AV → HP → Prop} {r : (Int32 × HP)} {k : HP → Option (Int32 × HP)} (hk : ∀ (w1 : Int32) (w2 : Int32) (w3 : Int32) (w4 : Int32) (w5 : Int32) (h : HP), k h = some r → Wp [.inr (.inr (.inl (6, 0))), .inl w1, .inl w2, .inl w3, .inl w4, .inl w5, .inr (.inr (.inr ())), .inr (.inr (.inr ()))] [] h) : ∀ L st h, pk_X6_copy_14 k L st h = some r → Wp L st h := by
  intro L st h q
  unfold pk_X6_copy_14 at q
  split at q
  · exact hk _ _ _ _ _ _ q
  · cases q
noncomputable def f_X6_copy (a1 : Int32) (a2 : Int32) (a3 : Int32) (a4 : Int32) (a5 : Int32) (h : HP) : Option (Int32 × HP) := (f_X6_isSheet a1 h).bind (fun q_1 => if q_1.1 = (0 : Int32) then (g_X6_copy_14 q_1.2) else ((f_X6_isSheet a3 q_1.2).bind (fun q_2 => if q_2.1 = (0 : Int32) then (g_X6_copy_14 q_2.2) else ((am_ix a1 4).bind (fun k_3 => (am_ix a3 4).bind (fun k_4 => (f_X3_isMissing k_3 q_2.2).bind (fun q_5 => if q_5.1 = (0 : Int32) then ((f_X3_isMissing k_4 q_5.2).bind (fun q_6 => if q_6.1 = (0 : Int32) then (if h_rI q_6.2 3 k_3 0 = h_rI q_6.2 3 k_4 0 then ((f_X3_hasPart k_3 a2 a5 q_6.2).bind (fun q_7 => if q_7.1 = (0 : Int32) then (g_X6_copy_104 q_7.2) else ((f_X3_hasPart k_4 a4 a5 q_7.2).bind (fun q_8 => if q_8.1 = (0 : Int32) then (g_X6_copy_104 q_8.2) else (if a2 < 0 ∨ a4 < 0 ∨ a5 < 0 ∨ 40 < Int32.toNatClampNeg a2 + Int32.toNatClampNeg a5 ∨ 40 < Int32.toNatClampNeg a4 + Int32.toNatClampNeg a5 then none else (some (a5, h_cp q_8.2 k_3 k_4 (Int32.toNatClampNeg a2) (Int32.toNatClampNeg a4) (Int32.toNatClampNeg a5)))))))) else ((f_X6_tell ((-1000000003)) q_6.2).bind (fun q_9 => some (q_9.1, q_9.2)))) else (g_X6_copy_53 q_6.2))) else (g_X6_copy_53 q_5.2))))))))
noncomputable def fl_X6_copy : List AV → HP → Option (Int32 × HP) := fun as h => match as with
  | [.inr (.inr (.inl (6, 0))), .inl a1, .inl a2, .inl a3, .inl a4, .inl a5] => f_X6_copy a1 a2 a3 a4 a5 h
  | _ => none
noncomputable def F_X6_copy : AF := .inl fl_X6_copy
set_option maxRecDepth 20000 in
theorem w_X6_copy_104 {p : Program} {l : Launch} {e : Env} {R : Room} {s : State} {m : MethodId} {args : Array Value} {below : List Frame} {meth : Method} {c : Code} {cells slots : Nat} {G : AG} {Q : (Int32 × HP) → State → Prop} (CX : am_X p l e R s m args below meth c cells slots G 8 cX6_copy RX6 am_tb P_X6_copy am_rI Q) {r : (Int32 × HP)} : ∀ (w1 : Int32) (w2 : Int32) (w3 : Int32) (w4 : Int32) (w5 : Int32) (w6 : Nat × Nat) (w7 : Nat × Nat) (h : HP), g_X6_copy_104 h = some r → am_W p l e R s m args below meth c cells slots G 8 (Q r) 104 [.inr (.inr (.inl (6, 0))), .inl w1, .inl w2, .inl w3, .inl w4, .inl w5, .inr (.inr (.inl w6)), .inr (.inr (.inl w7))] [] h := by
  intro w1 w2 w3 w4 w5 w6 w7 h q
  exact am_run_ok CX ok_X6_copy (K := []) (am_K0 (Wp := am_W p l e R s m args below meth c cells slots G 8 (Q r))) 7 104 _ _ _ q
set_option maxRecDepth 20000 in
theorem w_X6_copy_53 {p : Program} {l : Launch} {e : Env} {R : Room} {s : State} {m : MethodId} {args : Array Value} {below : List Frame} {meth : Method} {c : Code} {cells slots : Nat} {G : AG} {Q : (Int32 × HP) → State → Prop} (CX : am_X p l e R s m args below meth c cells slots G 8 cX6_copy RX6 am_tb P_X6_copy am_rI Q) {r : (Int32 × HP)} : ∀ (w1 : Int32) (w2 : Int32) (w3 : Int32) (w4 : Int32) (w5 : Int32) (w6 : Nat × Nat) (w7 : Nat × Nat) (h : HP), g_X6_copy_53 h = some r → am_W p l e R s m args below meth c cells slots G 8 (Q r) 53 [.inr (.inr (.inl (6, 0))), .inl w1, .inl w2, .inl w3, .inl w4, .inl w5, .inr (.inr (.inl w6)), .inr (.inr (.inl w7))] [] h := by
  intro w1 w2 w3 w4 w5 w6 w7 h q
  exact am_run_ok CX ok_X6_copy (K := []) (am_K0 (Wp := am_W p l e R s m args below meth c cells slots G 8 (Q r))) 7 53 _ _ _ q
set_option maxRecDepth 20000 in
theorem w_X6_copy_14 {p : Program} {l : Launch} {e : Env} {R : Room} {s : State} {m : MethodId} {args : Array Value} {below : List Frame} {meth : Method} {c : Code} {cells slots : Nat} {G : AG} {Q : (Int32 × HP) → State → Prop} (CX : am_X p l e R s m args below meth c cells slots G 8 cX6_copy RX6 am_tb P_X6_copy am_rI Q) {r : (Int32 × HP)} : ∀ (w1 : Int32) (w2 : Int32) (w3 : Int32) (w4 : Int32) (w5 : Int32) (h : HP), g_X6_copy_14 h = some r → am_W p l e R s m args below meth c cells slots G 8 (Q r) 14 [.inr (.inr (.inl (6, 0))), .inl w1, .inl w2, .inl w3, .inl w4, .inl w5, .inr (.inr (.inr ())), .inr (.inr (.inr ()))] [] h := by
  intro w1 w2 w3 w4 w5 h q
  exact am_run_ok CX ok_X6_copy (K := []) (am_K0 (Wp := am_W p l e R s m args below meth c cells slots G 8 (Q r))) 7 14 _ _ _ q
set_option maxRecDepth 20000 in
theorem b_X6_copy (l : Launch) (G : AG) : am_B l G 8 cX6_copy RX6 am_tb P_X6_copy am_rI fl_X6_copy := by
  intro p e R s m args below meth c cells slots Q CX as h r q
  unfold fl_X6_copy at q
  split at q
  · exact am_run_ok CX ok_X6_copy (K := [(14, pk_X6_copy_14 (g_X6_copy_14)), (53, pk_X6_copy_53 (g_X6_copy_53)), (104, pk_X6_copy_104 (g_X6_copy_104))]) (am_K1 (Wp := am_W p l e R s m args below meth c cells slots G 8 (Q r)) (pk_X6_copy_14_ok (Wp := am_W p l e R s m args below meth c cells slots G 8 (Q r) 14) (w_X6_copy_14 CX)) (am_K1 (Wp := am_W p l e R s m args below meth c cells slots G 8 (Q r)) (pk_X6_copy_53_ok (Wp := am_W p l e R s m args below meth c cells slots G 8 (Q r) 53) (w_X6_copy_53 CX)) (am_K1 (Wp := am_W p l e R s m args below meth c cells slots G 8 (Q r)) (pk_X6_copy_104_ok (Wp := am_W p l e R s m args below meth c cells slots G 8 (Q r) 104) (w_X6_copy_104 CX)) am_K0))) 50 0 _ _ _ q
  · cases q
theorem s_X6_copy : ∀ as h x, fl_X6_copy as h = some x → (∀ k, (some 6 : Option Nat) = some k → ∃ (j : Nat) (as' : List AV), as = .inr (.inr (.inl (k, j))) :: as') ∧ (am_l0 as).length ≤ 8 := by
  intro as h x q
  unfold fl_X6_copy at q
  split at q
  · exact ⟨fun k e => by cases e; exact ⟨_, _, rfl⟩, Nat.le_of_ble_eq_true rfl⟩
  · cases q
theorem M_X6_copy (l : Launch) (G : AG) : am_M l G yX6_copy cX6_copy 8 (some .int) 1 64 (some 6) F_X6_copy := am_M_of (f := fl_X6_copy) (toR := fun x => (some (.inl x.1), x.2)) (P := P_X6_copy) (Rr := am_rI) (own := RX6) (by decide) rfl (fun _ _ => rfl) s_X6_copy am_wrI am_rkI pf_RX6 pk_RX6 ps_RX6 (List.forall_mem_cons.mpr ⟨cv_RX6_57 l G (by decide) (by decide), (List.forall_mem_cons.mpr ⟨cv_RX6_261 l G (by decide) (by decide), (List.forall_mem_cons.mpr ⟨cv_RX6_276 l G (by decide) (by decide), (fun _ q => by cases q)⟩)⟩)⟩) (List.forall_mem_cons.mpr ⟨cs_RX6_250 l G (by decide) (by decide), (fun _ q => by cases q)⟩) pa_RX6 (b_X6_copy l G)
def C_X6_lays : List AC := [(0, .iload_n 1, 1, []), (1, .invokestatic 250, 4, []), (4, .ifCond .ne 10, 7, [14]), (7, .aload_n 0, 8, []), (8, .ldc 56, 10, []), (10, .invokevirtual 57, 13, []), (13, .ireturn, 14, []), (14, .aload_n 0, 15, []), (15, .getfield 40, 18, []), (18, .iload_n 1, 19, []), (19, .aaload, 20, []), (20, .astore_n 2, 21, []), (21, .aload_n 2, 22, []), (22, .invokevirtual 261, 25, []), (25, .ifCond .eq 11, 28, [36]), (28, .aload_n 0, 29, []), (29, .ldc_w 264, 32, []), (32, .invokevirtual 57, 35, []), (35, .ireturn, 36, []), (36, .iconst 0, 37, []), (37, .istore_n 3, 38, []), (38, .iconst 0, 39, []), (39, .istore 4, 41, []), (41, .iload 4, 43, []), (43, .aload_n 2, 44, []), (44, .getfield 258, 47, []), (47, .if_icmp .ge 65, 50, [112]), (50, .iload 4, 52, []), (52, .aload_n 0, 53, []), (53, .getfield 10, 56, []), (56, .getfield 224, 59, []), (59, .if_icmp .ge 53, 62, [112]), (62, .aload_n 2, 63, []), (63, .getfield 265, 66, []), (66, .iload 4, 68, []), (68, .laload, 69, []), (69, .lstore 5, 71, []), (71, .lload 5, 73, []), (73, .lconst 0, 74, []), (74, .lcmp, 75, []), (75, .ifCond .lt 31, 78, [106]), (78, .lload 5, 80, []), (80, .ldc2_w 285, 83, []), (83, .lcmp, 84, []), (84, .ifCond .gt 22, 87, [106]), (87, .aload_n 0, 88, []), (88, .getfield 10, 91, []), (91, .getfield 73, 94, []), (94, .iload 4, 96, []), (96, .aaload, 97, []), (97, .lload 5, 99, []), (99, .l2i, 100, []), (100, .putfield 89, 103, []), (103, .iinc 3 1, 106, []), (106, .iinc 4 1, 109, []), (109, .goto (-68), 112, [41]), (112, .iload_n 3, 113, []), (113, .ireturn, 114, [])]
theorem ok_X6_lays : ∀ x ∈ C_X6_lays, am_ok cX6_lays 7 x = true := by decide +kernel
noncomputable def P_X6_lays : AP := (PF_RX6, PK_RX6, PS_RX6, [(57, 2, F_X6_tell), (261, 1, F_X3_isMissing)], [(250, 1, F_X6_isSheet)], [])
noncomputable def g_X6_lays_41  : Nat → Nat → Int32 → Int32 → HP → Option (Int32 × HP)
  | 0, _, _, _, _ => none
  | n + 1, a1, a2, a3, h => if h_rI h 3 a1 1 ≤ a3 then (some (a2, h)) else (if h_rI h 1 0 3 ≤ a3 then (some (a2, h)) else ((am_ix a3 40).bind (fun k_1 => if lg_cmp (h_rJ h 12 a1 k_1) 0 < (0 : Int32) then (g_X6_lays_41 n a1 a2 (a3 + 1) h) else (if (0 : Int32) < lg_cmp (h_rJ h 12 a1 k_1) 99 then (g_X6_lays_41 n a1 a2 (a3 + 1) h) else ((am_ix a3 8).bind (fun k_2 => g_X6_lays_41 n a1 (a2 + 1) (a3 + 1) (h_wI h 0 (8 * 0 + k_2) 3 (Int64.toInt32 (h_rJ h 12 a1 k_1)))))))))
def pk_X6_lays_41 (k : Nat → Int32 → Int32 → HP → Option (Int32 × HP)) : List AV → List AV → HP → Option (Int32 × HP) := fun L st h => match L, st with
  | [.inr (.inr (.inl (6, 0))), .inl _, .inr (.inr (.inl (3, a1))), .inl a2, .inl a3, _, .inr (.inr (.inr ()))], [] => k a1 a2 a3 h
  | _, _ => none
theorem pk_X6_lays_41_ok {Wp : List AV → List AV → HP → Prop} {r : (Int32 × HP)} {k : Nat → Int32 → Int32 → HP → Option (Int32 × HP)} (hk : ∀ (a1 : Nat) (a2 : Int32) (a3 : Int32) (w1 : Int32) (w2 : AV) (h : HP), k a1 a2 a3 h = some r → Wp [.inr (.inr (.inl (6, 0))), .inl w1, .inr (.inr (.inl (3, a1))), .inl a2, .inl a3, w2, .inr (.inr (.inr ()))] [] h) : ∀ L st h, pk_X6_lays_41 k L st h = some r → Wp L st h := by
  intro L st h q
  unfold pk_X6_lays_41 at q
  split at q
  · exact hk _ _ _ _ _ _ q
  · cases q
noncomputable def f_X6_lays (a1 : Int32) (h : HP) : Option (Int32 × HP) := (f_X6_isSheet a1 h).bind (fun q_1 => if q_1.1 = (0 : Int32) then ((f_X6_tell ((-1000000001)) q_1.2).bind (fun q_5 => some (q_5.1, q_5.2))) else ((am_ix a1 4).bind (fun k_2 => (f_X3_isMissing k_2 q_1.2).bind (fun q_3 => if q_3.1 = (0 : Int32) then (g_X6_lays_41 am_fu k_2 0 0 q_3.2) else ((f_X6_tell ((-1000000006)) q_3.2).bind (fun q_4 => some (q_4.1, q_4.2)))))))
noncomputable def fl_X6_lays : List AV → HP → Option (Int32 × HP) := fun as h => match as with
  | [.inr (.inr (.inl (6, 0))), .inl a1] => f_X6_lays a1 h
  | _ => none
noncomputable def F_X6_lays : AF := .inl fl_X6_lays
set_option maxRecDepth 20000 in
theorem w_X6_lays_41 {p : Program} {l : Launch} {e : Env} {R : Room} {s : State} {m : MethodId} {args : Array Value} {below : List Frame} {meth : Method} {c : Code} {cells slots : Nat} {G : AG} {Q : (Int32 × HP) → State → Prop} (CX : am_X p l e R s m args below meth c cells slots G 7 cX6_lays RX6 am_tb P_X6_lays am_rI Q) {r : (Int32 × HP)} : ∀ (n : Nat) (a1 : Nat) (a2 : Int32) (a3 : Int32) (w1 : Int32) (w2 : AV) (h : HP), g_X6_lays_41 n a1 a2 a3 h = some r → am_W p l e R s m args below meth c cells slots G 7 (Q r) 41 [.inr (.inr (.inl (6, 0))), .inl w1, .inr (.inr (.inl (3, a1))), .inl a2, .inl a3, w2, .inr (.inr (.inr ()))] [] h := by
  intro n
  induction n with
  | zero =>
    intro a1 a2 a3 w1 w2 h q
    have q9 : (none : Option (Int32 × HP)) = some r := q
    cases q9
  | succ n ih =>
    intro a1 a2 a3 w1 w2 h q
    exact am_run_ok CX ok_X6_lays (K := [(41, pk_X6_lays_41 (g_X6_lays_41 n))]) (am_K1 (Wp := am_W p l e R s m args below meth c cells slots G 7 (Q r)) (pk_X6_lays_41_ok (Wp := am_W p l e R s m args below meth c cells slots G 7 (Q r) 41) ih) am_K0) 36 41 _ _ _ q
set_option maxRecDepth 20000 in
theorem b_X6_lays (l : Launch) (G : AG) : am_B l G 7 cX6_lays RX6 am_tb P_X6_lays am_rI fl_X6_lays := by
  intro p e R s m args below meth c cells slots Q CX as h r q
  unfold fl_X6_lays at q
  split at q
  · exact am_run_ok CX ok_X6_lays (K := [(41, pk_X6_lays_41 (g_X6_lays_41 am_fu))]) (am_K1 (Wp := am_W p l e R s m args below meth c cells slots G 7 (Q r)) (pk_X6_lays_41_ok (Wp := am_W p l e R s m args below meth c cells slots G 7 (Q r) 41) (w_X6_lays_41 CX am_fu)) am_K0) 18 0 _ _ _ q
  · cases q
theorem s_X6_lays : ∀ as h x, fl_X6_lays as h = some x → (∀ k, (some 6 : Option Nat) = some k → ∃ (j : Nat) (as' : List AV), as = .inr (.inr (.inl (k, j))) :: as') ∧ (am_l0 as).length ≤ 7 := by
  intro as h x q
  unfold fl_X6_lays at q
  split at q
  · exact ⟨fun k e => by cases e; exact ⟨_, _, rfl⟩, Nat.le_of_ble_eq_true rfl⟩
  · cases q
theorem M_X6_lays (l : Launch) (G : AG) : am_M l G yX6_lays cX6_lays 7 (some .int) 1 22 (some 6) F_X6_lays := am_M_of (f := fl_X6_lays) (toR := fun x => (some (.inl x.1), x.2)) (P := P_X6_lays) (Rr := am_rI) (own := RX6) (by decide) rfl (fun _ _ => rfl) s_X6_lays am_wrI am_rkI pf_RX6 pk_RX6 ps_RX6 (List.forall_mem_cons.mpr ⟨cv_RX6_57 l G (by decide) (by decide), (List.forall_mem_cons.mpr ⟨cv_RX6_261 l G (by decide) (by decide), (fun _ q => by cases q)⟩)⟩) (List.forall_mem_cons.mpr ⟨cs_RX6_250 l G (by decide) (by decide), (fun _ q => by cases q)⟩) (fun _ q => by cases q) (b_X6_lays l G)
def C_X6_book : List AC := [(0, .iload_n 1, 1, []), (1, .invokestatic 250, 4, []), (4, .ifCond .ne 10, 7, [14]), (7, .aload_n 0, 8, []), (8, .ldc 56, 10, []), (10, .invokevirtual 57, 13, []), (13, .ireturn, 14, []), (14, .aload_n 0, 15, []), (15, .getfield 40, 18, []), (18, .iload_n 1, 19, []), (19, .aaload, 20, []), (20, .astore_n 3, 21, []), (21, .aload_n 3, 22, []), (22, .invokevirtual 261, 25, []), (25, .ifCond .eq 11, 28, [36]), (28, .aload_n 0, 29, []), (29, .ldc_w 264, 32, []), (32, .invokevirtual 57, 35, []), (35, .ireturn, 36, []), (36, .aload_n 0, 37, []), (37, .getfield 10, 40, []), (40, .iload_n 2, 41, []), (41, .invokevirtual 139, 44, []), (44, .ifCond .ne 10, 47, [54]), (47, .aload_n 0, 48, []), (48, .ldc 56, 50, []), (50, .invokevirtual 57, 53, []), (53, .ireturn, 54, []), (54, .iconst 0, 55, []), (55, .istore 4, 57, []), (57, .iload 4, 59, []), (59, .aload_n 3, 60, []), (60, .getfield 258, 63, []), (63, .if_icmp .ge 33, 66, [96]), (66, .aload_n 3, 67, []), (67, .iload 4, 69, []), (69, .aload_n 0, 70, []), (70, .getfield 10, 73, []), (73, .iload_n 2, 74, []), (74, .iload 4, 76, []), (76, .aload_n 0, 77, []), (77, .getfield 10, 80, []), (80, .getfield 98, 83, []), (83, .invokevirtual 196, 86, []), (86, .i2l, 87, []), (87, .invokevirtual 269, 90, []), (90, .iinc 4 1, 93, []), (93, .goto (-36), 96, [57]), (96, .aload_n 3, 97, []), (97, .getfield 258, 100, []), (100, .ireturn, 101, [])]
theorem ok_X6_book : ∀ x ∈ C_X6_book, am_ok cX6_book 5 x = true := by decide +kernel
noncomputable def P_X6_book : AP := (PF_RX6, PK_RX6, PS_RX6, [(57, 2, F_X6_tell), (139, 2, F_X1_hasMember), (196, 4, F_X1_finesAhead), (261, 1, F_X3_isMissing), (269, 3, F_X3_put)], [(250, 1, F_X6_isSheet)], [])
noncomputable def g_X6_book_57  : Nat → Int32 → Nat → Int32 → HP → Option (Int32 × HP)
  | 0, _, _, _, _ => none
  | n + 1, a1, a2, a3, h => if h_rI h 3 a2 1 ≤ a3 then (some (h_rI h 3 a2 1, h)) else ((f_X1_finesAhead 0 a1 a3 (h_rI h 1 0 1) h).bind (fun q_1 => (f_X3_put a2 a3 (Int32.toInt64 q_1.1) q_1.2).bind (fun q_2 => g_X6_book_57 n a1 a2 (a3 + 1) q_2)))
def pk_X6_book_57 (k : Int32 → Nat → Int32 → HP → Option (Int32 × HP)) : List AV → List AV → HP → Option (Int32 × HP) := fun L st h => match L, st with
  | [.inr (.inr (.inl (6, 0))), .inl _, .inl a1, .inr (.inr (.inl (3, a2))), .inl a3], [] => k a1 a2 a3 h
  | _, _ => none
theorem pk_X6_book_57_ok {Wp : List AV → List AV → HP → Prop} {r : (Int32 × HP)} {k : Int32 → Nat → Int32 → HP → Option (Int32 × HP)} (hk : ∀ (a1 : Int32) (a2 : Nat) (a3 : Int32) (w1 : Int32) (h : HP), k a1 a2 a3 h = some r → Wp [.inr (.inr (.inl (6, 0))), .inl w1, .inl a1, .inr (.inr (.inl (3, a2))), .inl a3] [] h) : ∀ L st h, pk_X6_book_57 k L st h = some r → Wp L st h := by
  intro L st h q
  unfold pk_X6_book_57 at q
  split at q
  · exact hk _ _ _ _ _ q
  · cases q
noncomputable def f_X6_book (a1 : Int32) (a2 : Int32) (h : HP) : Option (Int32 × HP) := (f_X6_isSheet a1 h).bind (fun q_1 => if q_1.1 = (0 : Int32) then ((f_X6_tell ((-1000000001)) q_1.2).bind (fun q_7 => some (q_7.1, q_7.2))) else ((am_ix a1 4).bind (fun k_2 => (f_X3_isMissing k_2 q_1.2).bind (fun q_3 => if q_3.1 = (0 : Int32) then ((f_X1_hasMember 0 a2 q_3.2).bind (fun q_4 => if q_4.1 = (0 : Int32) then ((f_X6_tell ((-1000000001)) q_4.2).bind (fun q_5 => some (q_5.1, q_5.2))) else (g_X6_book_57 am_fu a2 k_2 0 q_4.2))) else ((f_X6_tell ((-1000000006)) q_3.2).bind (fun q_6 => some (q_6.1, q_6.2)))))))
noncomputable def fl_X6_book : List AV → HP → Option (Int32 × HP) := fun as h => match as with
  | [.inr (.inr (.inl (6, 0))), .inl a1, .inl a2] => f_X6_book a1 a2 h
  | _ => none
noncomputable def F_X6_book : AF := .inl fl_X6_book
set_option maxRecDepth 20000 in
theorem w_X6_book_57 {p : Program} {l : Launch} {e : Env} {R : Room} {s : State} {m : MethodId} {args : Array Value} {below : List Frame} {meth : Method} {c : Code} {cells slots : Nat} {G : AG} {Q : (Int32 × HP) → State → Prop} (CX : am_X p l e R s m args below meth c cells slots G 5 cX6_book RX6 am_tb P_X6_book am_rI Q) {r : (Int32 × HP)} : ∀ (n : Nat) (a1 : Int32) (a2 : Nat) (a3 : Int32) (w1 : Int32) (h : HP), g_X6_book_57 n a1 a2 a3 h = some r → am_W p l e R s m args below meth c cells slots G 5 (Q r) 57 [.inr (.inr (.inl (6, 0))), .inl w1, .inl a1, .inr (.inr (.inl (3, a2))), .inl a3] [] h := by
  intro n
  induction n with
  | zero =>
    intro a1 a2 a3 w1 h q
    have q9 : (none : Option (Int32 × HP)) = some r := q
    cases q9
  | succ n ih =>
    intro a1 a2 a3 w1 h q
    exact am_run_ok CX ok_X6_book (K := [(57, pk_X6_book_57 (g_X6_book_57 n))]) (am_K1 (Wp := am_W p l e R s m args below meth c cells slots G 5 (Q r)) (pk_X6_book_57_ok (Wp := am_W p l e R s m args below meth c cells slots G 5 (Q r) 57) ih) am_K0) 21 57 _ _ _ q
set_option maxRecDepth 20000 in
theorem b_X6_book (l : Launch) (G : AG) : am_B l G 5 cX6_book RX6 am_tb P_X6_book am_rI fl_X6_book := by
  intro p e R s m args below meth c cells slots Q CX as h r q
  unfold fl_X6_book at q
  split at q
  · exact am_run_ok CX ok_X6_book (K := [(57, pk_X6_book_57 (g_X6_book_57 am_fu))]) (am_K1 (Wp := am_W p l e R s m args below meth c cells slots G 5 (Q r)) (pk_X6_book_57_ok (Wp := am_W p l e R s m args below meth c cells slots G 5 (Q r) 57) (w_X6_book_57 CX am_fu)) am_K0) 23 0 _ _ _ q
  · cases q
theorem s_X6_book : ∀ as h x, fl_X6_book as h = some x → (∀ k, (some 6 : Option Nat) = some k → ∃ (j : Nat) (as' : List AV), as = .inr (.inr (.inl (k, j))) :: as') ∧ (am_l0 as).length ≤ 5 := by
  intro as h x q
  unfold fl_X6_book at q
  split at q
  · exact ⟨fun k e => by cases e; exact ⟨_, _, rfl⟩, Nat.le_of_ble_eq_true rfl⟩
  · cases q
theorem M_X6_book (l : Launch) (G : AG) : am_M l G yX6_book cX6_book 5 (some .int) 2 47 (some 6) F_X6_book := am_M_of (f := fl_X6_book) (toR := fun x => (some (.inl x.1), x.2)) (P := P_X6_book) (Rr := am_rI) (own := RX6) (by decide) rfl (fun _ _ => rfl) s_X6_book am_wrI am_rkI pf_RX6 pk_RX6 ps_RX6 (List.forall_mem_cons.mpr ⟨cv_RX6_57 l G (by decide) (by decide), (List.forall_mem_cons.mpr ⟨cv_RX6_139 l G (by decide) (by decide), (List.forall_mem_cons.mpr ⟨cv_RX6_196 l G (by decide) (by decide), (List.forall_mem_cons.mpr ⟨cv_RX6_261 l G (by decide) (by decide), (List.forall_mem_cons.mpr ⟨cv_RX6_269 l G (by decide) (by decide), (fun _ q => by cases q)⟩)⟩)⟩)⟩)⟩) (List.forall_mem_cons.mpr ⟨cs_RX6_250 l G (by decide) (by decide), (fun _ q => by cases q)⟩) (fun _ q => by cases q) (b_X6_book l G)
theorem cv_RX6_289 (l : Launch) (G : AG) {fr lo : Nat} (h1 : 3 + 1 ≤ fr) (h2 : 8 + (7 + 11) + 71 ≤ lo) : am_cvOK l G RX6 fr lo (289, 3, F_X1_oneTurnFrom) := ⟨yX1_oneTurnFrom, cX1_oneTurnFrom, 7, (some .int), 3, 71, 1, RX1, M_X1_oneTurnFrom l G, ⟨(am_tb_mem (wd_15 _ (List.mem_of_getElem? (i := 30) rfl))), (am_tb_mem (wd_10 _ (List.mem_of_getElem? (i := 13) rfl))), (am_tb_mem (wd_10 _ (List.mem_of_getElem? (i := 14) rfl))), (am_tb_mem (wd_1 _ (List.mem_of_getElem? (i := 20) rfl))), (am_tb_mem (wd_10 _ (List.mem_of_getElem? (i := 15) rfl)))⟩, ⟨rfl, by decide, by decide, by decide +kernel⟩, Or.inl ⟨by decide, rfl⟩, h1, h2⟩
def C_X6_read : List AC := [(0, .iload_n 1, 1, []), (1, .invokestatic 250, 4, []), (4, .ifCond .ne 10, 7, [14]), (7, .aload_n 0, 8, []), (8, .ldc 56, 10, []), (10, .invokevirtual 57, 13, []), (13, .ireturn, 14, []), (14, .aload_n 0, 15, []), (15, .getfield 40, 18, []), (18, .iload_n 1, 19, []), (19, .aaload, 20, []), (20, .astore_n 3, 21, []), (21, .aload_n 3, 22, []), (22, .invokevirtual 261, 25, []), (25, .ifCond .eq 11, 28, [36]), (28, .aload_n 0, 29, []), (29, .ldc_w 264, 32, []), (32, .invokevirtual 57, 35, []), (35, .ireturn, 36, []), (36, .aload_n 0, 37, []), (37, .getfield 10, 40, []), (40, .iload_n 2, 41, []), (41, .invokevirtual 139, 44, []), (44, .ifCond .ne 10, 47, [54]), (47, .aload_n 0, 48, []), (48, .ldc 56, 50, []), (50, .invokevirtual 57, 53, []), (53, .ireturn, 54, []), (54, .iconst 1, 55, []), (55, .aload_n 0, 56, []), (56, .getfield 10, 59, []), (59, .getfield 142, 62, []), (62, .iload_n 2, 63, []), (63, .aaload, 64, []), (64, .getfield 146, 67, []), (67, .ishl, 68, []), (68, .istore 4, 70, []), (70, .iconst 0, 71, []), (71, .istore 5, 73, []), (73, .iload 5, 75, []), (75, .aload_n 3, 76, []), (76, .getfield 258, 79, []), (79, .if_icmp .ge 65, 82, [144]), (82, .aload_n 3, 83, []), (83, .getfield 265, 86, []), (86, .iload 5, 88, []), (88, .laload, 89, []), (89, .lstore 6, 91, []), (91, .lload 6, 93, []), (93, .lconst 0, 94, []), (94, .lcmp, 95, []), (95, .ifCond .lt 23, 98, [118]), (98, .lload 6, 100, []), (100, .ldc2_w 287, 103, []), (103, .lcmp, 104, []), (104, .ifCond .ge 14, 107, [118]), (107, .iload 4, 109, []), (109, .lload 6, 111, []), (111, .l2i, 112, []), (112, .ishr, 113, []), (113, .iconst 1, 114, []), (114, .iand, 115, []), (115, .ifCond .ne 8, 118, [123]), (118, .iconst 1, 119, []), (119, .iload 5, 121, []), (121, .iadd, 122, []), (122, .ireturn, 123, []), (123, .aload_n 0, 124, []), (124, .getfield 10, 127, []), (127, .iload_n 2, 128, []), (128, .iconst 1, 129, []), (129, .lload 6, 131, []), (131, .l2i, 132, []), (132, .ishl, 133, []), (133, .invokevirtual 289, 136, []), (136, .istore 4, 138, []), (138, .iinc 5 1, 141, []), (141, .goto (-68), 144, [73]), (144, .iconst 0, 145, []), (145, .ireturn, 146, [])]
theorem ok_X6_read : ∀ x ∈ C_X6_read, am_ok cX6_read 8 x = true := by decide +kernel
noncomputable def P_X6_read : AP := (PF_RX6, PK_RX6, PS_RX6, [(57, 2, F_X6_tell), (139, 2, F_X1_hasMember), (261, 1, F_X3_isMissing), (289, 3, F_X1_oneTurnFrom)], [(250, 1, F_X6_isSheet)], [])
noncomputable def g_X6_read_73  : Nat → Int32 → Nat → Int32 → Int32 → HP → Option (Int32 × HP)
  | 0, _, _, _, _, _ => none
  | n + 1, a1, a2, a3, a4, h => if h_rI h 3 a2 1 ≤ a4 then (some (0, h)) else ((am_ix a4 40).bind (fun k_1 => if lg_cmp (h_rJ h 12 a2 k_1) 0 < (0 : Int32) then (some (1 + a4, h)) else (if (0 : Int32) ≤ lg_cmp (h_rJ h 12 a2 k_1) 16 then (some (1 + a4, h)) else (if (a3 >>> ((Int64.toInt32 (h_rJ h 12 a2 k_1)) &&& 31)) &&& 1 = (0 : Int32) then (some (1 + a4, h)) else ((f_X1_oneTurnFrom 0 a1 (1 <<< ((Int64.toInt32 (h_rJ h 12 a2 k_1)) &&& 31)) h).bind (fun q_2 => g_X6_read_73 n a1 a2 q_2.1 (a4 + 1) q_2.2))))))
def pk_X6_read_73 (k : Int32 → Nat → Int32 → Int32 → HP → Option (Int32 × HP)) : List AV → List AV → HP → Option (Int32 × HP) := fun L st h => match L, st with
  | [.inr (.inr (.inl (6, 0))), .inl _, .inl a1, .inr (.inr (.inl (3, a2))), .inl a3, .inl a4, _, .inr (.inr (.inr ()))], [] => k a1 a2 a3 a4 h
  | _, _ => none
theorem pk_X6_read_73_ok {Wp : List AV → List AV → HP → Prop} {r : (Int32 × HP)} {k : Int32 → Nat → Int32 → Int32 → HP → Option (Int32 × HP)} (hk : ∀ (a1 : Int32) (a2 : Nat) (a3 : Int32) (a4 : Int32) (w1 : Int32) (w2 : AV) (h : HP), k a1 a2 a3 a4 h = some r → Wp [.inr (.inr (.inl (6, 0))), .inl w1, .inl a1, .inr (.inr (.inl (3, a2))), .inl a3, .inl a4, w2, .inr (.inr (.inr ()))] [] h) : ∀ L st h, pk_X6_read_73 k L st h = some r → Wp L st h := by
  intro L st h q
  unfold pk_X6_read_73 at q
  split at q
  · exact hk _ _ _ _ _ _ _ q
  · cases q
noncomputable def f_X6_read (a1 : Int32) (a2 : Int32) (h : HP) : Option (Int32 × HP) := (f_X6_isSheet a1 h).bind (fun q_1 => if q_1.1 = (0 : Int32) then ((f_X6_tell ((-1000000001)) q_1.2).bind (fun q_8 => some (q_8.1, q_8.2))) else ((am_ix a1 4).bind (fun k_2 => (f_X3_isMissing k_2 q_1.2).bind (fun q_3 => if q_3.1 = (0 : Int32) then ((f_X1_hasMember 0 a2 q_3.2).bind (fun q_4 => if q_4.1 = (0 : Int32) then ((f_X6_tell ((-1000000001)) q_4.2).bind (fun q_6 => some (q_6.1, q_6.2))) else ((am_ix a2 6).bind (fun k_5 => g_X6_read_73 am_fu a2 k_2 (1 <<< ((h_rI q_4.2 2 (6 * 0 + k_5) 0) &&& 31)) 0 q_4.2)))) else ((f_X6_tell ((-1000000006)) q_3.2).bind (fun q_7 => some (q_7.1, q_7.2)))))))
noncomputable def fl_X6_read : List AV → HP → Option (Int32 × HP) := fun as h => match as with
  | [.inr (.inr (.inl (6, 0))), .inl a1, .inl a2] => f_X6_read a1 a2 h
  | _ => none
noncomputable def F_X6_read : AF := .inl fl_X6_read
set_option maxRecDepth 20000 in
theorem w_X6_read_73 {p : Program} {l : Launch} {e : Env} {R : Room} {s : State} {m : MethodId} {args : Array Value} {below : List Frame} {meth : Method} {c : Code} {cells slots : Nat} {G : AG} {Q : (Int32 × HP) → State → Prop} (CX : am_X p l e R s m args below meth c cells slots G 8 cX6_read RX6 am_tb P_X6_read am_rI Q) {r : (Int32 × HP)} : ∀ (n : Nat) (a1 : Int32) (a2 : Nat) (a3 : Int32) (a4 : Int32) (w1 : Int32) (w2 : AV) (h : HP), g_X6_read_73 n a1 a2 a3 a4 h = some r → am_W p l e R s m args below meth c cells slots G 8 (Q r) 73 [.inr (.inr (.inl (6, 0))), .inl w1, .inl a1, .inr (.inr (.inl (3, a2))), .inl a3, .inl a4, w2, .inr (.inr (.inr ()))] [] h := by
  intro n
  induction n with
  | zero =>
    intro a1 a2 a3 a4 w1 w2 h q
    have q9 : (none : Option (Int32 × HP)) = some r := q
    cases q9
  | succ n ih =>
    intro a1 a2 a3 a4 w1 w2 h q
    exact am_run_ok CX ok_X6_read (K := [(73, pk_X6_read_73 (g_X6_read_73 n))]) (am_K1 (Wp := am_W p l e R s m args below meth c cells slots G 8 (Q r)) (pk_X6_read_73_ok (Wp := am_W p l e R s m args below meth c cells slots G 8 (Q r) 73) ih) am_K0) 38 73 _ _ _ q
set_option maxRecDepth 20000 in
theorem b_X6_read (l : Launch) (G : AG) : am_B l G 8 cX6_read RX6 am_tb P_X6_read am_rI fl_X6_read := by
  intro p e R s m args below meth c cells slots Q CX as h r q
  unfold fl_X6_read at q
  split at q
  · exact am_run_ok CX ok_X6_read (K := [(73, pk_X6_read_73 (g_X6_read_73 am_fu))]) (am_K1 (Wp := am_W p l e R s m args below meth c cells slots G 8 (Q r)) (pk_X6_read_73_ok (Wp := am_W p l e R s m args below meth c cells slots G 8 (Q r) 73) (w_X6_read_73 CX am_fu)) am_K0) 30 0 _ _ _ q
  · cases q
theorem s_X6_read : ∀ as h x, fl_X6_read as h = some x → (∀ k, (some 6 : Option Nat) = some k → ∃ (j : Nat) (as' : List AV), as = .inr (.inr (.inl (k, j))) :: as') ∧ (am_l0 as).length ≤ 8 := by
  intro as h x q
  unfold fl_X6_read at q
  split at q
  · exact ⟨fun k e => by cases e; exact ⟨_, _, rfl⟩, Nat.le_of_ble_eq_true rfl⟩
  · cases q
theorem M_X6_read (l : Launch) (G : AG) : am_M l G yX6_read cX6_read 8 (some .int) 4 97 (some 6) F_X6_read := am_M_of (f := fl_X6_read) (toR := fun x => (some (.inl x.1), x.2)) (P := P_X6_read) (Rr := am_rI) (own := RX6) (by decide) rfl (fun _ _ => rfl) s_X6_read am_wrI am_rkI pf_RX6 pk_RX6 ps_RX6 (List.forall_mem_cons.mpr ⟨cv_RX6_57 l G (by decide) (by decide), (List.forall_mem_cons.mpr ⟨cv_RX6_139 l G (by decide) (by decide), (List.forall_mem_cons.mpr ⟨cv_RX6_261 l G (by decide) (by decide), (List.forall_mem_cons.mpr ⟨cv_RX6_289 l G (by decide) (by decide), (fun _ q => by cases q)⟩)⟩)⟩)⟩) (List.forall_mem_cons.mpr ⟨cs_RX6_250 l G (by decide) (by decide), (fun _ q => by cases q)⟩) (fun _ q => by cases q) (b_X6_read l G)
def C_X6_image : List AC := [(0, .aload_n 0, 1, []), (1, .getfield 19, 4, []), (4, .aload_n 0, 5, []), (5, .getfield 10, 8, []), (8, .invokevirtual 200, 11, []), (11, .aload_n 0, 12, []), (12, .iconst 1, 13, []), (13, .putfield 292, 16, []), (16, .iconst 1, 17, []), (17, .ireturn, 18, [])]
theorem ok_X6_image : ∀ x ∈ C_X6_image, am_ok cX6_image 1 x = true := by decide +kernel
noncomputable def P_X6_image : AP := (PF_RX6, PK_RX6, PS_RX6, [(200, 2, F_X1_becomes)], [], [])
noncomputable def f_X6_image  (h : HP) : Option (Int32 × HP) := (f_X1_becomes 2 0 h).bind (fun q_1 => some (1, h_wI q_1 6 0 3 1))
noncomputable def fl_X6_image : List AV → HP → Option (Int32 × HP) := fun as h => match as with
  | [.inr (.inr (.inl (6, 0)))] => f_X6_image h
  | _ => none
noncomputable def F_X6_image : AF := .inl fl_X6_image
set_option maxRecDepth 20000 in
theorem b_X6_image (l : Launch) (G : AG) : am_B l G 1 cX6_image RX6 am_tb P_X6_image am_rI fl_X6_image := by
  intro p e R s m args below meth c cells slots Q CX as h r q
  unfold fl_X6_image at q
  split at q
  · exact am_run_ok CX ok_X6_image (K := []) (am_K0 (Wp := am_W p l e R s m args below meth c cells slots G 1 (Q r))) 13 0 _ _ _ q
  · cases q
theorem s_X6_image : ∀ as h x, fl_X6_image as h = some x → (∀ k, (some 6 : Option Nat) = some k → ∃ (j : Nat) (as' : List AV), as = .inr (.inr (.inl (k, j))) :: as') ∧ (am_l0 as).length ≤ 1 := by
  intro as h x q
  unfold fl_X6_image at q
  split at q
  · exact ⟨fun k e => by cases e; exact ⟨_, _, rfl⟩, Nat.le_of_ble_eq_true rfl⟩
  · cases q
theorem M_X6_image (l : Launch) (G : AG) : am_M l G yX6_image cX6_image 1 (some .int) 2 43 (some 6) F_X6_image := am_M_of (f := fl_X6_image) (toR := fun x => (some (.inl x.1), x.2)) (P := P_X6_image) (Rr := am_rI) (own := RX6) (by decide) rfl (fun _ _ => rfl) s_X6_image am_wrI am_rkI pf_RX6 pk_RX6 ps_RX6 (List.forall_mem_cons.mpr ⟨cv_RX6_200 l G (by decide) (by decide), (fun _ q => by cases q)⟩) (fun _ q => by cases q) (fun _ q => by cases q) (b_X6_image l G)
def C_X6_undo : List AC := [(0, .aload_n 0, 1, []), (1, .getfield 292, 4, []), (4, .ifCond .ne 10, 7, [14]), (7, .aload_n 0, 8, []), (8, .ldc 124, 10, []), (10, .invokevirtual 57, 13, []), (13, .ireturn, 14, []), (14, .aload_n 0, 15, []), (15, .getfield 10, 18, []), (18, .aload_n 0, 19, []), (19, .getfield 19, 22, []), (22, .invokevirtual 200, 25, []), (25, .aload_n 0, 26, []), (26, .getfield 10, 29, []), (29, .getfield 224, 32, []), (32, .ireturn, 33, [])]
theorem ok_X6_undo : ∀ x ∈ C_X6_undo, am_ok cX6_undo 1 x = true := by decide +kernel
noncomputable def P_X6_undo : AP := (PF_RX6, PK_RX6, PS_RX6, [(57, 2, F_X6_tell), (200, 2, F_X1_becomes)], [], [])
noncomputable def f_X6_undo  (h : HP) : Option (Int32 × HP) := if h_rI h 6 0 3 = (0 : Int32) then ((f_X6_tell ((-1000000004)) h).bind (fun q_2 => some (q_2.1, q_2.2))) else ((f_X1_becomes 0 2 h).bind (fun q_1 => some (h_rI q_1 1 0 3, q_1)))
noncomputable def fl_X6_undo : List AV → HP → Option (Int32 × HP) := fun as h => match as with
  | [.inr (.inr (.inl (6, 0)))] => f_X6_undo h
  | _ => none
noncomputable def F_X6_undo : AF := .inl fl_X6_undo
set_option maxRecDepth 20000 in
theorem b_X6_undo (l : Launch) (G : AG) : am_B l G 1 cX6_undo RX6 am_tb P_X6_undo am_rI fl_X6_undo := by
  intro p e R s m args below meth c cells slots Q CX as h r q
  unfold fl_X6_undo at q
  split at q
  · exact am_run_ok CX ok_X6_undo (K := []) (am_K0 (Wp := am_W p l e R s m args below meth c cells slots G 1 (Q r))) 15 0 _ _ _ q
  · cases q
theorem s_X6_undo : ∀ as h x, fl_X6_undo as h = some x → (∀ k, (some 6 : Option Nat) = some k → ∃ (j : Nat) (as' : List AV), as = .inr (.inr (.inl (k, j))) :: as') ∧ (am_l0 as).length ≤ 1 := by
  intro as h x q
  unfold fl_X6_undo at q
  split at q
  · exact ⟨fun k e => by cases e; exact ⟨_, _, rfl⟩, Nat.le_of_ble_eq_true rfl⟩
  · cases q
theorem M_X6_undo (l : Launch) (G : AG) : am_M l G yX6_undo cX6_undo 1 (some .int) 2 43 (some 6) F_X6_undo := am_M_of (f := fl_X6_undo) (toR := fun x => (some (.inl x.1), x.2)) (P := P_X6_undo) (Rr := am_rI) (own := RX6) (by decide) rfl (fun _ _ => rfl) s_X6_undo am_wrI am_rkI pf_RX6 pk_RX6 ps_RX6 (List.forall_mem_cons.mpr ⟨cv_RX6_57 l G (by decide) (by decide), (List.forall_mem_cons.mpr ⟨cv_RX6_200 l G (by decide) (by decide), (fun _ q => by cases q)⟩)⟩) (fun _ q => by cases q) (fun _ q => by cases q) (b_X6_undo l G)
def C_X6_tear : List AC := [(0, .aload_n 0, 1, []), (1, .getfield 292, 4, []), (4, .ifCond .eq 7, 7, [11]), (7, .iconst 1, 8, []), (8, .goto 4, 11, [12]), (11, .iconst 0, 12, []), (12, .istore_n 1, 13, []), (13, .aload_n 0, 14, []), (14, .iconst 0, 15, []), (15, .putfield 292, 18, []), (18, .iload_n 1, 19, []), (19, .ireturn, 20, [])]
theorem ok_X6_tear : ∀ x ∈ C_X6_tear, am_ok cX6_tear 2 x = true := by decide +kernel
noncomputable def P_X6_tear : AP := (PF_RX6, PK_RX6, PS_RX6, [], [], [])
noncomputable def g_X6_tear_12 (a1 : Int32) (h : HP) : Option (Int32 × HP) := some (a1, h_wI h 6 0 3 0)
def pk_X6_tear_12 (k : Int32 → HP → Option (Int32 × HP)) : List AV → List AV → HP → Option (Int32 × HP) := fun L st h => match L, st with
  | [.inr (.inr (.inl (6, 0))), .inr (.inr (.inr ()))], [.inl a1] => k a1 h
  | _, _ => none
theorem pk_X6_tear_12_ok {Wp : List AV → List AV → HP → Prop} {r : (Int32 × HP)} {k : Int32 → HP → Option (Int32 × HP)} (hk : ∀ (a1 : Int32) (h : HP), k a1 h = some r → Wp [.inr (.inr (.inl (6, 0))), .inr (.inr (.inr ()))] [.inl a1] h) : ∀ L st h, pk_X6_tear_12 k L st h = some r → Wp L st h := by
  intro L st h q
  unfold pk_X6_tear_12 at q
  split at q
  · exact hk _ _ q
  · cases q
noncomputable def f_X6_tear  (h : HP) : Option (Int32 × HP) := if h_rI h 6 0 3 = (0 : Int32) then (g_X6_tear_12 0 h) else (g_X6_tear_12 1 h)
noncomputable def fl_X6_tear : List AV → HP → Option (Int32 × HP) := fun as h => match as with
  | [.inr (.inr (.inl (6, 0)))] => f_X6_tear h
  | _ => none
noncomputable def F_X6_tear : AF := .inl fl_X6_tear
set_option maxRecDepth 20000 in
theorem w_X6_tear_12 {p : Program} {l : Launch} {e : Env} {R : Room} {s : State} {m : MethodId} {args : Array Value} {below : List Frame} {meth : Method} {c : Code} {cells slots : Nat} {G : AG} {Q : (Int32 × HP) → State → Prop} (CX : am_X p l e R s m args below meth c cells slots G 2 cX6_tear RX6 am_tb P_X6_tear am_rI Q) {r : (Int32 × HP)} : ∀ (a1 : Int32) (h : HP), g_X6_tear_12 a1 h = some r → am_W p l e R s m args below meth c cells slots G 2 (Q r) 12 [.inr (.inr (.inl (6, 0))), .inr (.inr (.inr ()))] [.inl a1] h := by
  intro a1 h q
  exact am_run_ok CX ok_X6_tear (K := []) (am_K0 (Wp := am_W p l e R s m args below meth c cells slots G 2 (Q r))) 9 12 _ _ _ q
set_option maxRecDepth 20000 in
theorem b_X6_tear (l : Launch) (G : AG) : am_B l G 2 cX6_tear RX6 am_tb P_X6_tear am_rI fl_X6_tear := by
  intro p e R s m args below meth c cells slots Q CX as h r q
  unfold fl_X6_tear at q
  split at q
  · exact am_run_ok CX ok_X6_tear (K := [(12, pk_X6_tear_12 (g_X6_tear_12))]) (am_K1 (Wp := am_W p l e R s m args below meth c cells slots G 2 (Q r)) (pk_X6_tear_12_ok (Wp := am_W p l e R s m args below meth c cells slots G 2 (Q r) 12) (w_X6_tear_12 CX)) am_K0) 8 0 _ _ _ q
  · cases q
theorem s_X6_tear : ∀ as h x, fl_X6_tear as h = some x → (∀ k, (some 6 : Option Nat) = some k → ∃ (j : Nat) (as' : List AV), as = .inr (.inr (.inl (k, j))) :: as') ∧ (am_l0 as).length ≤ 2 := by
  intro as h x q
  unfold fl_X6_tear at q
  split at q
  · exact ⟨fun k e => by cases e; exact ⟨_, _, rfl⟩, Nat.le_of_ble_eq_true rfl⟩
  · cases q
theorem M_X6_tear (l : Launch) (G : AG) : am_M l G yX6_tear cX6_tear 2 (some .int) 0 0 (some 6) F_X6_tear := am_M_of (f := fl_X6_tear) (toR := fun x => (some (.inl x.1), x.2)) (P := P_X6_tear) (Rr := am_rI) (own := RX6) (by decide) rfl (fun _ _ => rfl) s_X6_tear am_wrI am_rkI pf_RX6 pk_RX6 ps_RX6 (fun _ q => by cases q) (fun _ q => by cases q) (fun _ q => by cases q) (b_X6_tear l G)
theorem cv_RX6_299 (l : Launch) (G : AG) {fr lo : Nat} (h1 : 1 + 1 ≤ fr) (h2 : 8 + (4 + 11) + 21 ≤ lo) : am_cvOK l G RX6 fr lo (299, 1, F_X1_pairCount) := ⟨yX1_pairCount, cX1_pairCount, 4, (some .int), 1, 21, 1, RX1, M_X1_pairCount l G, ⟨(am_tb_mem (wd_16 _ (List.mem_of_getElem? (i := 7) rfl))), (am_tb_mem (wd_16 _ (List.mem_of_getElem? (i := 8) rfl))), (am_tb_mem (wd_16 _ (List.mem_of_getElem? (i := 9) rfl))), (am_tb_mem (wd_1 _ (List.mem_of_getElem? (i := 20) rfl))), (am_tb_mem (wd_16 _ (List.mem_of_getElem? (i := 10) rfl)))⟩, ⟨rfl, by decide, by decide, by decide +kernel⟩, Or.inl ⟨by decide, rfl⟩, h1, h2⟩
def C_X6_count : List AC := [(0, .iload_n 1, 1, []), (1, .tableswitch 63 0 3 #[31, 39, 47, 55], 32, [64, 32, 40, 48, 56]), (32, .aload_n 0, 33, []), (33, .getfield 10, 36, []), (36, .getfield 224, 39, []), (39, .ireturn, 40, []), (40, .aload_n 0, 41, []), (41, .getfield 25, 44, []), (44, .getfield 241, 47, []), (47, .ireturn, 48, []), (48, .aload_n 0, 49, []), (49, .getfield 10, 52, []), (52, .getfield 296, 55, []), (55, .ireturn, 56, []), (56, .aload_n 0, 57, []), (57, .getfield 10, 60, []), (60, .invokevirtual 299, 63, []), (63, .ireturn, 64, []), (64, .aload_n 0, 65, []), (65, .ldc 56, 67, []), (67, .invokevirtual 57, 70, []), (70, .ireturn, 71, [])]
theorem ok_X6_count : ∀ x ∈ C_X6_count, am_ok cX6_count 2 x = true := by decide +kernel
noncomputable def P_X6_count : AP := (PF_RX6, PK_RX6, PS_RX6, [(57, 2, F_X6_tell), (299, 1, F_X1_pairCount)], [], [])
noncomputable def f_X6_count (a1 : Int32) (h : HP) : Option (Int32 × HP) := if a1 = 0 then (some (h_rI h 1 0 3, h)) else (if a1 = 1 then (some (h_rI h 4 0 1, h)) else (if a1 = 2 then (some (h_rI h 1 0 5, h)) else (if a1 = 3 then ((f_X1_pairCount 0 h).bind (fun q_1 => some (q_1.1, q_1.2))) else ((f_X6_tell ((-1000000001)) h).bind (fun q_2 => some (q_2.1, q_2.2))))))
noncomputable def fl_X6_count : List AV → HP → Option (Int32 × HP) := fun as h => match as with
  | [.inr (.inr (.inl (6, 0))), .inl a1] => f_X6_count a1 h
  | _ => none
noncomputable def F_X6_count : AF := .inl fl_X6_count
set_option maxRecDepth 20000 in
theorem b_X6_count (l : Launch) (G : AG) : am_B l G 2 cX6_count RX6 am_tb P_X6_count am_rI fl_X6_count := by
  intro p e R s m args below meth c cells slots Q CX as h r q
  unfold fl_X6_count at q
  split at q
  · exact am_run_ok CX ok_X6_count (K := []) (am_K0 (Wp := am_W p l e R s m args below meth c cells slots G 2 (Q r))) 9 0 _ _ _ q
  · cases q
theorem s_X6_count : ∀ as h x, fl_X6_count as h = some x → (∀ k, (some 6 : Option Nat) = some k → ∃ (j : Nat) (as' : List AV), as = .inr (.inr (.inl (k, j))) :: as') ∧ (am_l0 as).length ≤ 2 := by
  intro as h x q
  unfold fl_X6_count at q
  split at q
  · exact ⟨fun k e => by cases e; exact ⟨_, _, rfl⟩, Nat.le_of_ble_eq_true rfl⟩
  · cases q
theorem M_X6_count (l : Launch) (G : AG) : am_M l G yX6_count cX6_count 2 (some .int) 2 44 (some 6) F_X6_count := am_M_of (f := fl_X6_count) (toR := fun x => (some (.inl x.1), x.2)) (P := P_X6_count) (Rr := am_rI) (own := RX6) (by decide) rfl (fun _ _ => rfl) s_X6_count am_wrI am_rkI pf_RX6 pk_RX6 ps_RX6 (List.forall_mem_cons.mpr ⟨cv_RX6_57 l G (by decide) (by decide), (List.forall_mem_cons.mpr ⟨cv_RX6_299 l G (by decide) (by decide), (fun _ q => by cases q)⟩)⟩) (fun _ q => by cases q) (fun _ q => by cases q) (b_X6_count l G)
def C_X6_status : List AC := [(0, .iload_n 1, 1, []), (1, .iconst (-1), 2, []), (2, .if_icmp .lt 9, 5, [11]), (5, .iload_n 1, 6, []), (6, .bipush 7, 8, []), (8, .if_icmp .lt 10, 11, [18]), (11, .aload_n 0, 12, []), (12, .ldc 56, 14, []), (14, .invokevirtual 57, 17, []), (17, .ireturn, 18, []), (18, .iload_n 1, 19, []), (19, .ifCond .lt 10, 22, [29]), (22, .aload_n 0, 23, []), (23, .getfield 45, 26, []), (26, .iload_n 1, 27, []), (27, .iaload, 28, []), (28, .ireturn, 29, []), (29, .iconst 0, 30, []), (30, .istore_n 2, 31, []), (31, .iconst 0, 32, []), (32, .istore_n 3, 33, []), (33, .iload_n 3, 34, []), (34, .bipush 7, 36, []), (36, .if_icmp .ge 18, 39, [54]), (39, .iload_n 2, 40, []), (40, .aload_n 0, 41, []), (41, .getfield 45, 44, []), (44, .iload_n 3, 45, []), (45, .iaload, 46, []), (46, .iadd, 47, []), (47, .istore_n 2, 48, []), (48, .iinc 3 1, 51, []), (51, .goto (-18), 54, [33]), (54, .iload_n 2, 55, []), (55, .ireturn, 56, [])]
theorem ok_X6_status : ∀ x ∈ C_X6_status, am_ok cX6_status 4 x = true := by decide +kernel
noncomputable def P_X6_status : AP := (PF_RX6, PK_RX6, PS_RX6, [(57, 2, F_X6_tell)], [], [])
noncomputable def g_X6_status_33  : Nat → Int32 → Int32 → HP → Option (Int32 × HP)
  | 0, _, _, _ => none
  | n + 1, a1, a2, h => if (7 : Int32) ≤ a2 then (some (a1, h)) else ((am_ix a2 7).bind (fun k_1 => g_X6_status_33 n (a1 + (h_rI h 11 1 k_1)) (a2 + 1) h))
def pk_X6_status_33 (k : Int32 → Int32 → HP → Option (Int32 × HP)) : List AV → List AV → HP → Option (Int32 × HP) := fun L st h => match L, st with
  | [.inr (.inr (.inl (6, 0))), .inl _, .inl a1, .inl a2], [] => k a1 a2 h
  | _, _ => none
theorem pk_X6_status_33_ok {Wp : List AV → List AV → HP → Prop} {r : (Int32 × HP)} {k : Int32 → Int32 → HP → Option (Int32 × HP)} (hk : ∀ (a1 : Int32) (a2 : Int32) (w1 : Int32) (h : HP), k a1 a2 h = some r → Wp [.inr (.inr (.inl (6, 0))), .inl w1, .inl a1, .inl a2] [] h) : ∀ L st h, pk_X6_status_33 k L st h = some r → Wp L st h := by
  intro L st h q
  unfold pk_X6_status_33 at q
  split at q
  · exact hk _ _ _ _ q
  · cases q
noncomputable def g_X6_status_11  (h : HP) : Option (Int32 × HP) := (f_X6_tell ((-1000000001)) h).bind (fun q_1 => some (q_1.1, q_1.2))
def pk_X6_status_11 (k : HP → Option (Int32 × HP)) : List AV → List AV → HP → Option (Int32 × HP) := fun L st h => match L, st with
  | [.inr (.inr (.inl (6, 0))), .inl _, .inr (.inr (.inr ())), .inr (.inr (.inr ()))], [] => k h
  | _, _ => none
theorem pk_X6_status_11_ok {Wp : List AV → List AV → HP → Prop} {r : (Int32 × HP)} {k : HP → Option (Int32 × HP)} (hk : ∀ (w1 : Int32) (h : HP), k h = some r → Wp [.inr (.inr (.inl (6, 0))), .inl w1, .inr (.inr (.inr ())), .inr (.inr (.inr ()))] [] h) : ∀ L st h, pk_X6_status_11 k L st h = some r → Wp L st h := by
  intro L st h q
  unfold pk_X6_status_11 at q
  split at q
  · exact hk _ _ q
  · cases q
noncomputable def f_X6_status (a1 : Int32) (h : HP) : Option (Int32 × HP) := if a1 < ((-1) : Int32) then (g_X6_status_11 h) else (if a1 < (7 : Int32) then (if a1 < (0 : Int32) then (g_X6_status_33 am_fu 0 0 h) else ((am_ix a1 7).bind (fun k_1 => some (h_rI h 11 1 k_1, h)))) else (g_X6_status_11 h))
noncomputable def fl_X6_status : List AV → HP → Option (Int32 × HP) := fun as h => match as with
  | [.inr (.inr (.inl (6, 0))), .inl a1] => f_X6_status a1 h
  | _ => none
noncomputable def F_X6_status : AF := .inl fl_X6_status
set_option maxRecDepth 20000 in
theorem w_X6_status_33 {p : Program} {l : Launch} {e : Env} {R : Room} {s : State} {m : MethodId} {args : Array Value} {below : List Frame} {meth : Method} {c : Code} {cells slots : Nat} {G : AG} {Q : (Int32 × HP) → State → Prop} (CX : am_X p l e R s m args below meth c cells slots G 4 cX6_status RX6 am_tb P_X6_status am_rI Q) {r : (Int32 × HP)} : ∀ (n : Nat) (a1 : Int32) (a2 : Int32) (w1 : Int32) (h : HP), g_X6_status_33 n a1 a2 h = some r → am_W p l e R s m args below meth c cells slots G 4 (Q r) 33 [.inr (.inr (.inl (6, 0))), .inl w1, .inl a1, .inl a2] [] h := by
  intro n
  induction n with
  | zero =>
    intro a1 a2 w1 h q
    have q9 : (none : Option (Int32 × HP)) = some r := q
    cases q9
  | succ n ih =>
    intro a1 a2 w1 h q
    exact am_run_ok CX ok_X6_status (K := [(33, pk_X6_status_33 (g_X6_status_33 n))]) (am_K1 (Wp := am_W p l e R s m args below meth c cells slots G 4 (Q r)) (pk_X6_status_33_ok (Wp := am_W p l e R s m args below meth c cells slots G 4 (Q r) 33) ih) am_K0) 15 33 _ _ _ q
set_option maxRecDepth 20000 in
theorem w_X6_status_11 {p : Program} {l : Launch} {e : Env} {R : Room} {s : State} {m : MethodId} {args : Array Value} {below : List Frame} {meth : Method} {c : Code} {cells slots : Nat} {G : AG} {Q : (Int32 × HP) → State → Prop} (CX : am_X p l e R s m args below meth c cells slots G 4 cX6_status RX6 am_tb P_X6_status am_rI Q) {r : (Int32 × HP)} : ∀ (w1 : Int32) (h : HP), g_X6_status_11 h = some r → am_W p l e R s m args below meth c cells slots G 4 (Q r) 11 [.inr (.inr (.inl (6, 0))), .inl w1, .inr (.inr (.inr ())), .inr (.inr (.inr ()))] [] h := by
  intro w1 h q
  exact am_run_ok CX ok_X6_status (K := []) (am_K0 (Wp := am_W p l e R s m args below meth c cells slots G 4 (Q r))) 7 11 _ _ _ q
set_option maxRecDepth 20000 in
theorem b_X6_status (l : Launch) (G : AG) : am_B l G 4 cX6_status RX6 am_tb P_X6_status am_rI fl_X6_status := by
  intro p e R s m args below meth c cells slots Q CX as h r q
  unfold fl_X6_status at q
  split at q
  · exact am_run_ok CX ok_X6_status (K := [(11, pk_X6_status_11 (g_X6_status_11)), (33, pk_X6_status_33 (g_X6_status_33 am_fu))]) (am_K1 (Wp := am_W p l e R s m args below meth c cells slots G 4 (Q r)) (pk_X6_status_11_ok (Wp := am_W p l e R s m args below meth c cells slots G 4 (Q r) 11) (w_X6_status_11 CX)) (am_K1 (Wp := am_W p l e R s m args below meth c cells slots G 4 (Q r)) (pk_X6_status_33_ok (Wp := am_W p l e R s m args below meth c cells slots G 4 (Q r) 33) (w_X6_status_33 CX am_fu)) am_K0)) 16 0 _ _ _ q
  · cases q
theorem s_X6_status : ∀ as h x, fl_X6_status as h = some x → (∀ k, (some 6 : Option Nat) = some k → ∃ (j : Nat) (as' : List AV), as = .inr (.inr (.inl (k, j))) :: as') ∧ (am_l0 as).length ≤ 4 := by
  intro as h x q
  unfold fl_X6_status at q
  split at q
  · exact ⟨fun k e => by cases e; exact ⟨_, _, rfl⟩, Nat.le_of_ble_eq_true rfl⟩
  · cases q
theorem M_X6_status (l : Launch) (G : AG) : am_M l G yX6_status cX6_status 4 (some .int) 1 22 (some 6) F_X6_status := am_M_of (f := fl_X6_status) (toR := fun x => (some (.inl x.1), x.2)) (P := P_X6_status) (Rr := am_rI) (own := RX6) (by decide) rfl (fun _ _ => rfl) s_X6_status am_wrI am_rkI pf_RX6 pk_RX6 ps_RX6 (List.forall_mem_cons.mpr ⟨cv_RX6_57 l G (by decide) (by decide), (fun _ q => by cases q)⟩) (fun _ q => by cases q) (fun _ q => by cases q) (b_X6_status l G)
