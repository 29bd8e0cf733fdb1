/-! 09.jdk -/
def C_J6_bitCount_0f7a4 : List AC := [(0, .iload_n 0, 1, []), (1, .iload_n 0, 2, []), (2, .iconst 1, 3, []), (3, .iushr, 4, []), (4, .ldc_w 265, 7, []), (7, .iand, 8, []), (8, .isub, 9, []), (9, .istore_n 0, 10, []), (10, .iload_n 0, 11, []), (11, .ldc_w 266, 14, []), (14, .iand, 15, []), (15, .iload_n 0, 16, []), (16, .iconst 2, 17, []), (17, .iushr, 18, []), (18, .ldc_w 266, 21, []), (21, .iand, 22, []), (22, .iadd, 23, []), (23, .istore_n 0, 24, []), (24, .iload_n 0, 25, []), (25, .iload_n 0, 26, []), (26, .iconst 4, 27, []), (27, .iushr, 28, []), (28, .iadd, 29, []), (29, .ldc_w 267, 32, []), (32, .iand, 33, []), (33, .istore_n 0, 34, []), (34, .iload_n 0, 35, []), (35, .iload_n 0, 36, []), (36, .bipush 8, 38, []), (38, .iushr, 39, []), (39, .iadd, 40, []), (40, .istore_n 0, 41, []), (41, .iload_n 0, 42, []), (42, .iload_n 0, 43, []), (43, .bipush 16, 45, []), (45, .iushr, 46, []), (46, .iadd, 47, []), (47, .istore_n 0, 48, []), (48, .iload_n 0, 49, []), (49, .bipush 63, 51, []), (51, .iand, 52, []), (52, .ireturn, 53, [])]
theorem ok_J6_bitCount_0f7a4 : ∀ x ∈ C_J6_bitCount_0f7a4, am_ok cJ6_bitCount_0f7a4 1 x = true := by decide +kernel
noncomputable def P_J6_bitCount_0f7a4 : AP := (PF_RJ6, PK_RJ6, PS_RJ6, [], [], [])
noncomputable def g_J6_bitCount_0f7a4_41 (a1 : Int32) (h : HP) : Option (Int32 × HP) := some ((a1 + ((Int32.toUInt32 a1 >>> (Int32.toUInt32 16 &&& Int32.toUInt32 31)).toInt32)) &&& 63, h)
def pk_J6_bitCount_0f7a4_41 (k : Int32 → HP → Option (Int32 × HP)) : List AV → List AV → HP → Option (Int32 × HP) := fun L st h => match L, st with
  | [.inl a1], [] => k a1 h
  | _, _ => none
theorem pk_J6_bitCount_0f7a4_41_ok {Wp : List AV → List AV → HP → Prop} {r : (Int32 × HP)} {k : Int32 → HP → Option (Int32 × HP)} (hk : ∀ (a1 : Int32) (h : HP), k a1 h = some r → Wp [.inl a1] [] h) : ∀ L st h, pk_J6_bitCount_0f7a4_41 k L st h = some r → Wp L st h := by
  intro L st h q
  unfold pk_J6_bitCount_0f7a4_41 at q
  split at q
  · exact hk _ _ q
  · cases q
noncomputable def g_J6_bitCount_0f7a4_34 (a1 : Int32) (h : HP) : Option (Int32 × HP) := g_J6_bitCount_0f7a4_41 (a1 + ((Int32.toUInt32 a1 >>> (Int32.toUInt32 8 &&& Int32.toUInt32 31)).toInt32)) h
def pk_J6_bitCount_0f7a4_34 (k : Int32 → HP → Option (Int32 × HP)) : List AV → List AV → HP → Option (Int32 × HP) := fun L st h => match L, st with
  | [.inl a1], [] => k a1 h
  | _, _ => none
theorem pk_J6_bitCount_0f7a4_34_ok {Wp : List AV → List AV → HP → Prop} {r : (Int32 × HP)} {k : Int32 → HP → Option (Int32 × HP)} (hk : ∀ (a1 : Int32) (h : HP), k a1 h = some r → Wp [.inl a1] [] h) : ∀ L st h, pk_J6_bitCount_0f7a4_34 k L st h = some r → Wp L st h := by
  intro L st h q
  unfold pk_J6_bitCount_0f7a4_34 at q
  split at q
  · exact hk _ _ q
  · cases q
noncomputable def g_J6_bitCount_0f7a4_24 (a1 : Int32) (h : HP) : Option (Int32 × HP) := g_J6_bitCount_0f7a4_34 ((a1 + ((Int32.toUInt32 a1 >>> (Int32.toUInt32 4 &&& Int32.toUInt32 31)).toInt32)) &&& 252645135) h
def pk_J6_bitCount_0f7a4_24 (k : Int32 → HP → Option (Int32 × HP)) : List AV → List AV → HP → Option (Int32 × HP) := fun L st h => match L, st with
  | [.inl a1], [] => k a1 h
  | _, _ => none
theorem pk_J6_bitCount_0f7a4_24_ok {Wp : List AV → List AV → HP → Prop} {r : (Int32 × HP)} {k : Int32 → HP → Option (Int32 × HP)} (hk : ∀ (a1 : Int32) (h : HP), k a1 h = some r → Wp [.inl a1] [] h) : ∀ L st h, pk_J6_bitCount_0f7a4_24 k L st h = some r → Wp L st h := by
  intro L st h q
  unfold pk_J6_bitCount_0f7a4_24 at q
  split at q
  · exact hk _ _ q
  · cases q
noncomputable def g_J6_bitCount_0f7a4_10 (a1 : Int32) (h : HP) : Option (Int32 × HP) := g_J6_bitCount_0f7a4_24 ((a1 &&& 858993459) + (((Int32.toUInt32 a1 >>> (Int32.toUInt32 2 &&& Int32.toUInt32 31)).toInt32) &&& 858993459)) h
def pk_J6_bitCount_0f7a4_10 (k : Int32 → HP → Option (Int32 × HP)) : List AV → List AV → HP → Option (Int32 × HP) := fun L st h => match L, st with
  | [.inl a1], [] => k a1 h
  | _, _ => none
theorem pk_J6_bitCount_0f7a4_10_ok {Wp : List AV → List AV → HP → Prop} {r : (Int32 × HP)} {k : Int32 → HP → Option (Int32 × HP)} (hk : ∀ (a1 : Int32) (h : HP), k a1 h = some r → Wp [.inl a1] [] h) : ∀ L st h, pk_J6_bitCount_0f7a4_10 k L st h = some r → Wp L st h := by
  intro L st h q
  unfold pk_J6_bitCount_0f7a4_10 at q
  split at q
  · exact hk _ _ q
  · cases q
noncomputable def f_J6_bitCount_0f7a4 (a1 : Int32) (h : HP) : Option (Int32 × HP) := g_J6_bitCount_0f7a4_10 (a1 - (((Int32.toUInt32 a1 >>> (Int32.toUInt32 1 &&& Int32.toUInt32 31)).toInt32) &&& 1431655765)) h
noncomputable def fl_J6_bitCount_0f7a4 : List AV → HP → Option (Int32 × HP) := fun as h => match as with
  | [.inl a1] => f_J6_bitCount_0f7a4 a1 h
  | _ => none
noncomputable def F_J6_bitCount_0f7a4 : AF := .inl fl_J6_bitCount_0f7a4
set_option maxRecDepth 20000 in
theorem w_J6_bitCount_0f7a4_41 {p : Program} {l : Launch} {e : Env} {R : Room} {s : State} {m : MethodId} {args : Array Value} {below : List Frame} {meth : Method} {c : Code} {cells slots : Nat} {G : AG} {Q : (Int32 × HP) → State → Prop} (CX : am_X p l e R s m args below meth c cells slots G 1 cJ6_bitCount_0f7a4 RJ6 am_tb P_J6_bitCount_0f7a4 am_rI Q) {r : (Int32 × HP)} : ∀ (a1 : Int32) (h : HP), g_J6_bitCount_0f7a4_41 a1 h = some r → am_W p l e R s m args below meth c cells slots G 1 (Q r) 41 [.inl a1] [] h := by
  intro a1 h q
  exact am_run_ok CX ok_J6_bitCount_0f7a4 (K := []) (am_K0 (Wp := am_W p l e R s m args below meth c cells slots G 1 (Q r))) 13 41 _ _ _ q
set_option maxRecDepth 20000 in
theorem w_J6_bitCount_0f7a4_34 {p : Program} {l : Launch} {e : Env} {R : Room} {s : State} {m : MethodId} {args : Array Value} {below : List Frame} {meth : Method} {c : Code} {cells slots : Nat} {G : AG} {Q : (Int32 × HP) → State → Prop} (CX : am_X p l e R s m args below meth c cells slots G 1 cJ6_bitCount_0f7a4 RJ6 am_tb P_J6_bitCount_0f7a4 am_rI Q) {r : (Int32 × HP)} : ∀ (a1 : Int32) (h : HP), g_J6_bitCount_0f7a4_34 a1 h = some r → am_W p l e R s m args below meth c cells slots G 1 (Q r) 34 [.inl a1] [] h := by
  intro a1 h q
  exact am_run_ok CX ok_J6_bitCount_0f7a4 (K := [(41, pk_J6_bitCount_0f7a4_41 (g_J6_bitCount_0f7a4_41))]) (am_K1 (Wp := am_W p l e R s m args below meth c cells slots G 1 (Q r)) (pk_J6_bitCount_0f7a4_41_ok (Wp := am_W p l e R s m args below meth c cells slots G 1 (Q r) 41) (w_J6_bitCount_0f7a4_41 CX)) am_K0) 9 34 _ _ _ q
set_option maxRecDepth 20000 in
theorem w_J6_bitCount_0f7a4_24 {p : Program} {l : Launch} {e : Env} {R : Room} {s : State} {m : MethodId} {args : Array Value} {below : List Frame} {meth : Method} {c : Code} {cells slots : Nat} {G : AG} {Q : (Int32 × HP) → State → Prop} (CX : am_X p l e R s m args below meth c cells slots G 1 cJ6_bitCount_0f7a4 RJ6 am_tb P_J6_bitCount_0f7a4 am_rI Q) {r : (Int32 × HP)} : ∀ (a1 : Int32) (h : HP), g_J6_bitCount_0f7a4_24 a1 h = some r → am_W p l e R s m args below meth c cells slots G 1 (Q r) 24 [.inl a1] [] h := by
  intro a1 h q
  exact am_run_ok CX ok_J6_bitCount_0f7a4 (K := [(34, pk_J6_bitCount_0f7a4_34 (g_J6_bitCount_0f7a4_34))]) (am_K1 (Wp := am_W p l e R s m args below meth c cells slots G 1 (Q r)) (pk_J6_bitCount_0f7a4_34_ok (Wp := am_W p l e R s m args below meth c cells slots G 1 (Q r) 34) (w_J6_bitCount_0f7a4_34 CX)) am_K0) 11 24 _ _ _ q
set_option maxRecDepth 20000 in
theorem w_J6_bitCount_0f7a4_10 {p : Program} {l : Launch} {e : Env} {R : Room} {s : State} {m : MethodId} {args : Array Value} {below : List Frame} {meth : Method} {c : Code} {cells slots : Nat} {G : AG} {Q : (Int32 × HP) → State → Prop} (CX : am_X p l e R s m args below meth c cells slots G 1 cJ6_bitCount_0f7a4 RJ6 am_tb P_J6_bitCount_0f7a4 am_rI Q) {r : (Int32 × HP)} : ∀ (a1 : Int32) (h : HP), g_J6_bitCount_0f7a4_10 a1 h = some r → am_W p l e R s m args below meth c cells slots G 1 (Q r) 10 [.inl a1] [] h := by
  intro a1 h q
  exact am_run_ok CX ok_J6_bitCount_0f7a4 (K := [(24, pk_J6_bitCount_0f7a4_24 (g_J6_bitCount_0f7a4_24))]) (am_K1 (Wp := am_W p l e R s m args below meth c cells slots G 1 (Q r)) (pk_J6_bitCount_0f7a4_24_ok (Wp := am_W p l e R s m args below meth c cells slots G 1 (Q r) 24) (w_J6_bitCount_0f7a4_24 CX)) am_K0) 13 10 _ _ _ q
set_option maxRecDepth 20000 in
theorem b_J6_bitCount_0f7a4 (l : Launch) (G : AG) : am_B l G 1 cJ6_bitCount_0f7a4 RJ6 am_tb P_J6_bitCount_0f7a4 am_rI fl_J6_bitCount_0f7a4 := by
  intro p e R s m args below meth c cells slots Q CX as h r q
  unfold fl_J6_bitCount_0f7a4 at q
  split at q
  · exact am_run_ok CX ok_J6_bitCount_0f7a4 (K := [(10, pk_J6_bitCount_0f7a4_10 (g_J6_bitCount_0f7a4_10))]) (am_K1 (Wp := am_W p l e R s m args below meth c cells slots G 1 (Q r)) (pk_J6_bitCount_0f7a4_10_ok (Wp := am_W p l e R s m args below meth c cells slots G 1 (Q r) 10) (w_J6_bitCount_0f7a4_10 CX)) am_K0) 11 0 _ _ _ q
  · cases q
theorem s_J6_bitCount_0f7a4 : ∀ as h x, fl_J6_bitCount_0f7a4 as h = some x → (∀ k, (none : Option Nat) = some k → ∃ (j : Nat) (as' : List AV), as = .inr (.inr (.inl (k, j))) :: as') ∧ (am_l0 as).length ≤ 1 := by
  intro as h x q
  unfold fl_J6_bitCount_0f7a4 at q
  split at q
  · exact ⟨fun k e => (by cases e), Nat.le_of_ble_eq_true rfl⟩
  · cases q
theorem M_J6_bitCount_0f7a4 (l : Launch) (G : AG) : am_M l G yJ6_bitCount_0f7a4 cJ6_bitCount_0f7a4 1 (some .int) 0 0 none F_J6_bitCount_0f7a4 := am_M_of (f := fl_J6_bitCount_0f7a4) (toR := fun x => (some (.inl x.1), x.2)) (P := P_J6_bitCount_0f7a4) (Rr := am_rI) (own := RJ6) (by decide) rfl (fun _ _ => rfl) s_J6_bitCount_0f7a4 am_wrI am_rkI pf_RJ6 pk_RJ6 ps_RJ6 (fun _ q => by cases q) (fun _ q => by cases q) (fun _ q => by cases q) (b_J6_bitCount_0f7a4 l G)
def C_J0_coder_7d493 : List AC := [(0, .getstatic 38, 3, []), (3, .ifCond .eq 10, 6, [13]), (6, .aload_n 0, 7, []), (7, .getfield 15, 10, []), (10, .goto 4, 13, [14]), (13, .iconst 1, 14, []), (14, .ireturn, 15, [])]
theorem ok_J0_coder_7d493 : ∀ x ∈ C_J0_coder_7d493, am_ok cJ0_coder_7d493 1 x = true := by decide +kernel
noncomputable def P_J0_coder_7d493 : AP := (PF_RJ0, PK_RJ0, PS_RJ0, [], [], [])
noncomputable def f_J0_coder_7d493 (a1 : Nat) (h : HP) : Option (Int32 × HP) := some ((Int32.toInt8 0).toInt32, h)
noncomputable def fl_J0_coder_7d493 : List AV → HP → Option (Int32 × HP) := fun as h => match as with
  | [.inr (.inr (.inl (16, a1)))] => f_J0_coder_7d493 a1 h
  | _ => none
noncomputable def F_J0_coder_7d493 : AF := .inl fl_J0_coder_7d493
set_option maxRecDepth 20000 in
theorem b_J0_coder_7d493 (l : Launch) (G : AG) : am_B l G 1 cJ0_coder_7d493 RJ0 am_tb P_J0_coder_7d493 am_rB fl_J0_coder_7d493 := by
  intro p e R s m args below meth c cells slots Q CX as h r q
  unfold fl_J0_coder_7d493 at q
  split at q
  · exact am_run_ok CX ok_J0_coder_7d493 (K := []) (am_K0 (Wp := am_W p l e R s m args below meth c cells slots G 1 (Q r))) 9 0 _ _ _ q
  · cases q
theorem s_J0_coder_7d493 : ∀ as h x, fl_J0_coder_7d493 as h = some x → (∀ k, (some 16 : Option Nat) = some k → ∃ (j : Nat) (as' : List AV), as = .inr (.inr (.inl (k, j))) :: as') ∧ (am_l0 as).length ≤ 1 := by
  intro as h x q
  unfold fl_J0_coder_7d493 at q
  split at q
  · exact ⟨fun k e => by cases e; exact ⟨_, _, rfl⟩, Nat.le_of_ble_eq_true rfl⟩
  · cases q
theorem M_J0_coder_7d493 (l : Launch) (G : AG) : am_M l G yJ0_coder_7d493 cJ0_coder_7d493 1 (some .byte) 0 0 (some 16) F_J0_coder_7d493 := am_M_of (f := fl_J0_coder_7d493) (toR := fun x => (some (.inl x.1), x.2)) (P := P_J0_coder_7d493) (Rr := am_rB) (own := RJ0) (by decide) rfl (fun _ _ => rfl) s_J0_coder_7d493 am_wrI am_rkB pf_RJ0 pk_RJ0 ps_RJ0 (fun _ q => by cases q) (fun _ q => by cases q) (fun _ q => by cases q) (b_J0_coder_7d493 l G)
theorem cv_RJ0_335 (l : Launch) (G : AG) {fr lo : Nat} (h1 : 0 + 1 ≤ fr) (h2 : 8 + (1 + 11) + 0 ≤ lo) : am_cvOK l G RJ0 fr lo (335, 1, F_J0_coder_7d493) := ⟨yJ0_coder_7d493, cJ0_coder_7d493, 1, (some .byte), 0, 0, 16, RJ0, M_J0_coder_7d493 l G, ⟨(am_tb_mem (wd_13 _ (List.mem_of_getElem? (i := 18) rfl))), (am_tb_mem (wd_13 _ (List.mem_of_getElem? (i := 19) rfl))), (am_tb_mem (wd_13 _ (List.mem_of_getElem? (i := 20) rfl))), (am_tb_mem (wd_1 _ (List.mem_of_getElem? (i := 29) rfl))), (am_tb_mem (wd_13 _ (List.mem_of_getElem? (i := 21) rfl)))⟩, ⟨rfl, by decide, by decide, by decide +kernel⟩, Or.inr ⟨rfl, rfl⟩, h1, h2⟩
def C_J0_length_8abf5 : List AC := [(0, .aload_n 0, 1, []), (1, .getfield 9, 4, []), (4, .arraylength, 5, []), (5, .aload_n 0, 6, []), (6, .invokevirtual 335, 9, []), (9, .ishr, 10, []), (10, .ireturn, 11, [])]
theorem ok_J0_length_8abf5 : ∀ x ∈ C_J0_length_8abf5, am_ok cJ0_length_8abf5 1 x = true := by decide +kernel
noncomputable def P_J0_length_8abf5 : AP := (PF_RJ0, PK_RJ0, PS_RJ0, [(335, 1, F_J0_coder_7d493)], [], [])
noncomputable def f_J0_length_8abf5 (a1 : Nat) (h : HP) : Option (Int32 × HP) := (f_J0_coder_7d493 a1 h).bind (fun q_1 => some ((Int32.ofNat (am_bln.getD a1 0)) >>> (q_1.1 &&& 31), q_1.2))
noncomputable def fl_J0_length_8abf5 : List AV → HP → Option (Int32 × HP) := fun as h => match as with
  | [.inr (.inr (.inl (16, a1)))] => f_J0_length_8abf5 a1 h
  | _ => none
noncomputable def F_J0_length_8abf5 : AF := .inl fl_J0_length_8abf5
set_option maxRecDepth 20000 in
theorem b_J0_length_8abf5 (l : Launch) (G : AG) : am_B l G 1 cJ0_length_8abf5 RJ0 am_tb P_J0_length_8abf5 am_rI fl_J0_length_8abf5 := by
  intro p e R s m args below meth c cells slots Q CX as h r q
  unfold fl_J0_length_8abf5 at q
  split at q
  · exact am_run_ok CX ok_J0_length_8abf5 (K := []) (am_K0 (Wp := am_W p l e R s m args below meth c cells slots G 1 (Q r))) 10 0 _ _ _ q
  · cases q
theorem s_J0_length_8abf5 : ∀ as h x, fl_J0_length_8abf5 as h = some x → (∀ k, (some 16 : Option Nat) = some k → ∃ (j : Nat) (as' : List AV), as = .inr (.inr (.inl (k, j))) :: as') ∧ (am_l0 as).length ≤ 1 := by
  intro as h x q
  unfold fl_J0_length_8abf5 at q
  split at q
  · exact ⟨fun k e => by cases e; exact ⟨_, _, rfl⟩, Nat.le_of_ble_eq_true rfl⟩
  · cases q
theorem M_J0_length_8abf5 (l : Launch) (G : AG) : am_M l G yJ0_length_8abf5 cJ0_length_8abf5 1 (some .int) 1 20 (some 16) F_J0_length_8abf5 := am_M_of (f := fl_J0_length_8abf5) (toR := fun x => (some (.inl x.1), x.2)) (P := P_J0_length_8abf5) (Rr := am_rI) (own := RJ0) (by decide) rfl (fun _ _ => rfl) s_J0_length_8abf5 am_wrI am_rkI pf_RJ0 pk_RJ0 ps_RJ0 (List.forall_mem_cons.mpr ⟨cv_RJ0_335 l G (by decide) (by decide), (fun _ q => by cases q)⟩) (fun _ q => by cases q) (fun _ q => by cases q) (b_J0_length_8abf5 l G)
def C_J3_checkIndex_8e157 : List AC := [(0, .iload_n 0, 1, []), (1, .ifCond .lt 8, 4, [9]), (4, .iload_n 0, 5, []), (5, .iload_n 1, 6, []), (6, .if_icmp .lt 10, 9, [16]), (9, .aload_n 2, 10, []), (16, .iload_n 0, 17, []), (17, .ireturn, 18, [])]
theorem ok_J3_checkIndex_8e157 : ∀ x ∈ C_J3_checkIndex_8e157, am_ok cJ3_checkIndex_8e157 3 x = true := by decide +kernel
noncomputable def P_J3_checkIndex_8e157 : AP := (PF_RJ3, PK_RJ3, PS_RJ3, [], [], [])
noncomputable def f_J3_checkIndex_8e157 (a1 : Int32) (a2 : Int32) (h : HP) : Option (Int32 × HP) := if a1 < (0 : Int32) then (none) else (if a1 < a2 then (some (a1, h)) else (none))
noncomputable def fl_J3_checkIndex_8e157 : List AV → HP → Option (Int32 × HP) := fun as h => match as with
  | [.inl a1, .inl a2, .inr (.inr (.inr ()))] => f_J3_checkIndex_8e157 a1 a2 h
  | _ => none
noncomputable def F_J3_checkIndex_8e157 : AF := .inl fl_J3_checkIndex_8e157
set_option maxRecDepth 20000 in
theorem b_J3_checkIndex_8e157 (l : Launch) (G : AG) : am_B l G 3 cJ3_checkIndex_8e157 RJ3 am_tb P_J3_checkIndex_8e157 am_rI fl_J3_checkIndex_8e157 := by
  intro p e R s m args below meth c cells slots Q CX as h r q
  unfold fl_J3_checkIndex_8e157 at q
  split at q
  · exact am_run_ok CX ok_J3_checkIndex_8e157 (K := []) (am_K0 (Wp := am_W p l e R s m args below meth c cells slots G 3 (Q r))) 10 0 _ _ _ q
  · cases q
theorem s_J3_checkIndex_8e157 : ∀ as h x, fl_J3_checkIndex_8e157 as h = some x → (∀ k, (none : Option Nat) = some k → ∃ (j : Nat) (as' : List AV), as = .inr (.inr (.inl (k, j))) :: as') ∧ (am_l0 as).length ≤ 3 := by
  intro as h x q
  unfold fl_J3_checkIndex_8e157 at q
  split at q
  · exact ⟨fun k e => (by cases e), Nat.le_of_ble_eq_true rfl⟩
  · cases q
theorem M_J3_checkIndex_8e157 (l : Launch) (G : AG) : am_M l G yJ3_checkIndex_8e157 cJ3_checkIndex_8e157 3 (some .int) 0 0 none F_J3_checkIndex_8e157 := am_M_of (f := fl_J3_checkIndex_8e157) (toR := fun x => (some (.inl x.1), x.2)) (P := P_J3_checkIndex_8e157) (Rr := am_rI) (own := RJ3) (by decide) rfl (fun _ _ => rfl) s_J3_checkIndex_8e157 am_wrI am_rkI pf_RJ3 pk_RJ3 ps_RJ3 (fun _ q => by cases q) (fun _ q => by cases q) (fun _ q => by cases q) (b_J3_checkIndex_8e157 l G)
theorem cs_RJ0_1059 (l : Launch) (G : AG) {fr lo : Nat} (h1 : 0 + 1 ≤ fr) (h2 : 8 + (3 + 11) + 0 ≤ lo) : am_csOK l G RJ0 fr lo (1059, 3, F_J3_checkIndex_8e157) := Or.inl ⟨yJ3_checkIndex_8e157, cJ3_checkIndex_8e157, 3, (some .int), 0, 0, M_J3_checkIndex_8e157 l G, ⟨(am_tb_mem (wd_13 _ (List.mem_of_getElem? (i := 38) rfl))), (am_tb_mem (wd_13 _ (List.mem_of_getElem? (i := 39) rfl))), (am_tb_mem (wd_1 _ (List.mem_of_getElem? (i := 31) rfl))), (am_tb_mem (wd_14 _ (List.mem_of_getElem? (i := 0) rfl)))⟩, ⟨by decide, by decide, by decide +kernel⟩, h1, h2⟩
def C_J0_checkIndex_df160 : List AC := [(0, .iload_n 0, 1, []), (1, .iload_n 1, 2, []), (2, .getstatic 1053, 5, []), (5, .invokestatic 1059, 8, []), (8, .pop, 9, []), (9, .return_, 10, [])]
theorem ok_J0_checkIndex_df160 : ∀ x ∈ C_J0_checkIndex_df160, am_ok cJ0_checkIndex_df160 2 x = true := by decide +kernel
noncomputable def P_J0_checkIndex_df160 : AP := (PF_RJ0, PK_RJ0, PS_RJ0, [], [(1059, 3, F_J3_checkIndex_8e157)], [])
noncomputable def f_J0_checkIndex_df160 (a1 : Int32) (a2 : Int32) (h : HP) : Option HP := (f_J3_checkIndex_8e157 a1 a2 h).bind (fun q_1 => some q_1.2)
noncomputable def fl_J0_checkIndex_df160 : List AV → HP → Option HP := fun as h => match as with
  | [.inl a1, .inl a2] => f_J0_checkIndex_df160 a1 a2 h
  | _ => none
noncomputable def F_J0_checkIndex_df160 : AF := .inr (.inl fl_J0_checkIndex_df160)
set_option maxRecDepth 20000 in
theorem b_J0_checkIndex_df160 (l : Launch) (G : AG) : am_B l G 2 cJ0_checkIndex_df160 RJ0 am_tb P_J0_checkIndex_df160 am_rV fl_J0_checkIndex_df160 := by
  intro p e R s m args below meth c cells slots Q CX as h r q
  unfold fl_J0_checkIndex_df160 at q
  split at q
  · exact am_run_ok CX ok_J0_checkIndex_df160 (K := []) (am_K0 (Wp := am_W p l e R s m args below meth c cells slots G 2 (Q r))) 9 0 _ _ _ q
  · cases q
theorem s_J0_checkIndex_df160 : ∀ as h x, fl_J0_checkIndex_df160 as h = some x → (∀ k, (none : Option Nat) = some k → ∃ (j : Nat) (as' : List AV), as = .inr (.inr (.inl (k, j))) :: as') ∧ (am_l0 as).length ≤ 2 := by
  intro as h x q
  unfold fl_J0_checkIndex_df160 at q
  split at q
  · exact ⟨fun k e => (by cases e), Nat.le_of_ble_eq_true rfl⟩
  · cases q
theorem M_J0_checkIndex_df160 (l : Launch) (G : AG) : am_M l G yJ0_checkIndex_df160 cJ0_checkIndex_df160 2 none 1 22 none F_J0_checkIndex_df160 := am_M_of (f := fl_J0_checkIndex_df160) (toR := fun x => (none, x)) (P := P_J0_checkIndex_df160) (Rr := am_rV) (own := RJ0) (by decide) rfl (fun _ _ => rfl) s_J0_checkIndex_df160 am_wrV am_rkV pf_RJ0 pk_RJ0 ps_RJ0 (fun _ q => by cases q) (List.forall_mem_cons.mpr ⟨cs_RJ0_1059 l G (by decide) (by decide), (fun _ q => by cases q)⟩) (fun _ q => by cases q) (b_J0_checkIndex_df160 l G)
theorem cs_RJ1_9 (l : Launch) (G : AG) {fr lo : Nat} (h1 : 1 + 1 ≤ fr) (h2 : 8 + (2 + 11) + 22 ≤ lo) : am_csOK l G RJ1 fr lo (9, 2, F_J0_checkIndex_df160) := Or.inl ⟨yJ0_checkIndex_df160, cJ0_checkIndex_df160, 2, none, 1, 22, M_J0_checkIndex_df160 l G, ⟨(am_tb_mem (wd_13 _ (List.mem_of_getElem? (i := 34) rfl))), (am_tb_mem (wd_13 _ (List.mem_of_getElem? (i := 35) rfl))), (am_tb_mem (wd_1 _ (List.mem_of_getElem? (i := 29) rfl))), (am_tb_mem (wd_13 _ (List.mem_of_getElem? (i := 36) rfl)))⟩, ⟨by decide, by decide, by decide +kernel⟩, h1, h2⟩
def C_J1_charAt_3b067 : List AC := [(0, .iload_n 1, 1, []), (1, .aload_n 0, 2, []), (2, .arraylength, 3, []), (3, .invokestatic 9, 6, []), (6, .aload_n 0, 7, []), (7, .iload_n 1, 8, []), (8, .baload, 9, []), (9, .sipush 255, 12, []), (12, .iand, 13, []), (13, .i2c, 14, []), (14, .ireturn, 15, [])]
theorem ok_J1_charAt_3b067 : ∀ x ∈ C_J1_charAt_3b067, am_ok cJ1_charAt_3b067 2 x = true := by decide +kernel
noncomputable def P_J1_charAt_3b067 : AP := (PF_RJ1, PK_RJ1, PS_RJ1, [], [(9, 2, F_J0_checkIndex_df160)], [])
noncomputable def f_J1_charAt_3b067 (a1 : Nat) (a2 : Int32) (h : HP) : Option (Int32 × HP) := (f_J0_checkIndex_df160 a2 (Int32.ofNat (am_bln.getD a1 0)) h).bind (fun q_1 => (am_ix a2 (am_bln.getD a1 0)).bind (fun k_2 => some ((Int32.toUInt32 ((Int32.toUInt32 (((am_byt.getD a1 []).getD k_2 0) &&& 255) % 65536).toInt32)).toUInt16.toUInt32.toInt32, q_1)))
noncomputable def fl_J1_charAt_3b067 : List AV → HP → Option (Int32 × HP) := fun as h => match as with
  | [.inr (.inr (.inl (17, a1))), .inl a2] => f_J1_charAt_3b067 a1 a2 h
  | _ => none
noncomputable def F_J1_charAt_3b067 : AF := .inl fl_J1_charAt_3b067
set_option maxRecDepth 20000 in
theorem b_J1_charAt_3b067 (l : Launch) (G : AG) : am_B l G 2 cJ1_charAt_3b067 RJ1 am_tb P_J1_charAt_3b067 am_rC fl_J1_charAt_3b067 := by
  intro p e R s m args below meth c cells slots Q CX as h r q
  unfold fl_J1_charAt_3b067 at q
  split at q
  · exact am_run_ok CX ok_J1_charAt_3b067 (K := []) (am_K0 (Wp := am_W p l e R s m args below meth c cells slots G 2 (Q r))) 14 0 _ _ _ q
  · cases q
theorem s_J1_charAt_3b067 : ∀ as h x, fl_J1_charAt_3b067 as h = some x → (∀ k, (none : Option Nat) = some k → ∃ (j : Nat) (as' : List AV), as = .inr (.inr (.inl (k, j))) :: as') ∧ (am_l0 as).length ≤ 2 := by
  intro as h x q
  unfold fl_J1_charAt_3b067 at q
  split at q
  · exact ⟨fun k e => (by cases e), Nat.le_of_ble_eq_true rfl⟩
  · cases q
theorem M_J1_charAt_3b067 (l : Launch) (G : AG) : am_M l G yJ1_charAt_3b067 cJ1_charAt_3b067 2 (some .char) 2 43 none F_J1_charAt_3b067 := am_M_of (f := fl_J1_charAt_3b067) (toR := fun x => (some (.inl x.1), x.2)) (P := P_J1_charAt_3b067) (Rr := am_rC) (own := RJ1) (by decide) rfl (fun _ _ => rfl) s_J1_charAt_3b067 am_wrI am_rkC pf_RJ1 pk_RJ1 ps_RJ1 (fun _ q => by cases q) (List.forall_mem_cons.mpr ⟨cs_RJ1_9 l G (by decide) (by decide), (fun _ q => by cases q)⟩) (fun _ q => by cases q) (b_J1_charAt_3b067 l G)
def C_J0_isLatin1_aae02 : List AC := [(0, .getstatic 38, 3, []), (3, .ifCond .eq 14, 6, [17]), (6, .aload_n 0, 7, []), (7, .getfield 15, 10, []), (10, .ifCond .ne 7, 13, [17]), (13, .iconst 1, 14, []), (14, .goto 4, 17, [18]), (17, .iconst 0, 18, []), (18, .ireturn, 19, [])]
theorem ok_J0_isLatin1_aae02 : ∀ x ∈ C_J0_isLatin1_aae02, am_ok cJ0_isLatin1_aae02 1 x = true := by decide +kernel
noncomputable def P_J0_isLatin1_aae02 : AP := (PF_RJ0, PK_RJ0, PS_RJ0, [], [], [])
noncomputable def f_J0_isLatin1_aae02 (a1 : Nat) (h : HP) : Option (Int32 × HP) := some (1, h)
noncomputable def fl_J0_isLatin1_aae02 : List AV → HP → Option (Int32 × HP) := fun as h => match as with
  | [.inr (.inr (.inl (16, a1)))] => f_J0_isLatin1_aae02 a1 h
  | _ => none
noncomputable def F_J0_isLatin1_aae02 : AF := .inl fl_J0_isLatin1_aae02
set_option maxRecDepth 20000 in
theorem b_J0_isLatin1_aae02 (l : Launch) (G : AG) : am_B l G 1 cJ0_isLatin1_aae02 RJ0 am_tb P_J0_isLatin1_aae02 am_rZ fl_J0_isLatin1_aae02 := by
  intro p e R s m args below meth c cells slots Q CX as h r q
  unfold fl_J0_isLatin1_aae02 at q
  split at q
  · exact am_run_ok CX ok_J0_isLatin1_aae02 (K := []) (am_K0 (Wp := am_W p l e R s m args below meth c cells slots G 1 (Q r))) 11 0 _ _ _ q
  · cases q
theorem s_J0_isLatin1_aae02 : ∀ as h x, fl_J0_isLatin1_aae02 as h = some x → (∀ k, (some 16 : Option Nat) = some k → ∃ (j : Nat) (as' : List AV), as = .inr (.inr (.inl (k, j))) :: as') ∧ (am_l0 as).length ≤ 1 := by
  intro as h x q
  unfold fl_J0_isLatin1_aae02 at q
  split at q
  · exact ⟨fun k e => by cases e; exact ⟨_, _, rfl⟩, Nat.le_of_ble_eq_true rfl⟩
  · cases q
theorem M_J0_isLatin1_aae02 (l : Launch) (G : AG) : am_M l G yJ0_isLatin1_aae02 cJ0_isLatin1_aae02 1 (some .boolean) 0 0 (some 16) F_J0_isLatin1_aae02 := am_M_of (f := fl_J0_isLatin1_aae02) (toR := fun x => (some (.inl x.1), x.2)) (P := P_J0_isLatin1_aae02) (Rr := am_rZ) (own := RJ0) (by decide) rfl (fun _ _ => rfl) s_J0_isLatin1_aae02 am_wrI am_rkZ pf_RJ0 pk_RJ0 ps_RJ0 (fun _ q => by cases q) (fun _ q => by cases q) (fun _ q => by cases q) (b_J0_isLatin1_aae02 l G)
theorem cv_RJ0_492 (l : Launch) (G : AG) {fr lo : Nat} (h1 : 0 + 1 ≤ fr) (h2 : 8 + (1 + 11) + 0 ≤ lo) : am_cvOK l G RJ0 fr lo (492, 1, F_J0_isLatin1_aae02) := ⟨yJ0_isLatin1_aae02, cJ0_isLatin1_aae02, 1, (some .boolean), 0, 0, 16, RJ0, M_J0_isLatin1_aae02 l G, ⟨(am_tb_mem (wd_13 _ (List.mem_of_getElem? (i := 27) rfl))), (am_tb_mem (wd_13 _ (List.mem_of_getElem? (i := 28) rfl))), (am_tb_mem (wd_13 _ (List.mem_of_getElem? (i := 29) rfl))), (am_tb_mem (wd_1 _ (List.mem_of_getElem? (i := 29) rfl))), (am_tb_mem (wd_13 _ (List.mem_of_getElem? (i := 30) rfl)))⟩, ⟨rfl, by decide, by decide, by decide +kernel⟩, Or.inr ⟨rfl, rfl⟩, h1, h2⟩
theorem cs_RJ0_495 (l : Launch) (G : AG) {fr lo : Nat} (h1 : 2 + 1 ≤ fr) (h2 : 8 + (2 + 11) + 43 ≤ lo) : am_csOK l G RJ0 fr lo (495, 2, F_J1_charAt_3b067) := Or.inl ⟨yJ1_charAt_3b067, cJ1_charAt_3b067, 2, (some .char), 2, 43, M_J1_charAt_3b067 l G, ⟨(am_tb_mem (wd_13 _ (List.mem_of_getElem? (i := 31) rfl))), (am_tb_mem (wd_13 _ (List.mem_of_getElem? (i := 32) rfl))), (am_tb_mem (wd_1 _ (List.mem_of_getElem? (i := 30) rfl))), (am_tb_mem (wd_13 _ (List.mem_of_getElem? (i := 33) rfl)))⟩, ⟨by decide, by decide, by decide +kernel⟩, h1, h2⟩
def C_J0_charAt_5068e : List AC := [(0, .aload_n 0, 1, []), (1, .invokevirtual 492, 4, []), (4, .ifCond .eq 12, 7, [16]), (7, .aload_n 0, 8, []), (8, .getfield 9, 11, []), (11, .iload_n 1, 12, []), (12, .invokestatic 495, 15, []), (15, .ireturn, 16, []), (16, .aload_n 0, 17, []), (17, .getfield 9, 20, []), (20, .iload_n 1, 21, []), (21, .invokestatic 498, 24, [])]
theorem ok_J0_charAt_5068e : ∀ x ∈ C_J0_charAt_5068e, am_ok cJ0_charAt_5068e 2 x = true := by decide +kernel
noncomputable def P_J0_charAt_5068e : AP := (PF_RJ0, PK_RJ0, PS_RJ0, [(492, 1, F_J0_isLatin1_aae02)], [(495, 2, F_J1_charAt_3b067)], [])
noncomputable def f_J0_charAt_5068e (a1 : Nat) (a2 : Int32) (h : HP) : Option (Int32 × HP) := (f_J0_isLatin1_aae02 a1 h).bind (fun q_1 => if q_1.1 = (0 : Int32) then (none) else ((f_J1_charAt_3b067 a1 a2 q_1.2).bind (fun q_2 => some ((Int32.toUInt32 q_2.1).toUInt16.toUInt32.toInt32, q_2.2))))
noncomputable def fl_J0_charAt_5068e : List AV → HP → Option (Int32 × HP) := fun as h => match as with
  | [.inr (.inr (.inl (16, a1))), .inl a2] => f_J0_charAt_5068e a1 a2 h
  | _ => none
noncomputable def F_J0_charAt_5068e : AF := .inl fl_J0_charAt_5068e
set_option maxRecDepth 20000 in
theorem b_J0_charAt_5068e (l : Launch) (G : AG) : am_B l G 2 cJ0_charAt_5068e RJ0 am_tb P_J0_charAt_5068e am_rC fl_J0_charAt_5068e := by
  intro p e R s m args below meth c cells slots Q CX as h r q
  unfold fl_J0_charAt_5068e at q
  split at q
  · exact am_run_ok CX ok_J0_charAt_5068e (K := []) (am_K0 (Wp := am_W p l e R s m args below meth c cells slots G 2 (Q r))) 11 0 _ _ _ q
  · cases q
theorem s_J0_charAt_5068e : ∀ as h x, fl_J0_charAt_5068e as h = some x → (∀ k, (some 16 : Option Nat) = some k → ∃ (j : Nat) (as' : List AV), as = .inr (.inr (.inl (k, j))) :: as') ∧ (am_l0 as).length ≤ 2 := by
  intro as h x q
  unfold fl_J0_charAt_5068e at q
  split at q
  · exact ⟨fun k e => by cases e; exact ⟨_, _, rfl⟩, Nat.le_of_ble_eq_true rfl⟩
  · cases q
theorem M_J0_charAt_5068e (l : Launch) (G : AG) : am_M l G yJ0_charAt_5068e cJ0_charAt_5068e 2 (some .char) 3 64 (some 16) F_J0_charAt_5068e := am_M_of (f := fl_J0_charAt_5068e) (toR := fun x => (some (.inl x.1), x.2)) (P := P_J0_charAt_5068e) (Rr := am_rC) (own := RJ0) (by decide) rfl (fun _ _ => rfl) s_J0_charAt_5068e am_wrI am_rkC pf_RJ0 pk_RJ0 ps_RJ0 (List.forall_mem_cons.mpr ⟨cv_RJ0_492 l G (by decide) (by decide), (fun _ q => by cases q)⟩) (List.forall_mem_cons.mpr ⟨cs_RJ0_495 l G (by decide) (by decide), (fun _ q => by cases q)⟩) (fun _ q => by cases q) (b_J0_charAt_5068e l G)
