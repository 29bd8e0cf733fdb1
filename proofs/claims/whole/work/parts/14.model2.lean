/-! 14.model2 -/
def C_X7_place : List AC := [(0, .iload_n 2, 1, []), (1, .ifCond .ne 10, 4, [11]), (4, .iload_n 3, 5, []), (5, .invokestatic 75, 8, []), (8, .goto 24, 11, [32]), (11, .iload_n 2, 12, []), (12, .iconst 1, 13, []), (13, .if_icmp .ne 18, 16, [31]), (16, .iload_n 3, 17, []), (17, .iconst 0, 18, []), (18, .sipush 9999, 21, []), (21, .invokestatic 42, 24, []), (24, .ifCond .eq 7, 27, [31]), (27, .iconst 1, 28, []), (28, .goto 4, 31, [32]), (31, .iconst 0, 32, []), (32, .istore 4, 34, []), (34, .aload_n 0, 35, []), (35, .iload_n 1, 36, []), (36, .invokevirtual 111, 39, []), (39, .ifCond .eq 24, 42, [63]), (42, .iload 4, 44, []), (44, .ifCond .eq 19, 47, [63]), (47, .aload_n 0, 48, []), (48, .bipush 52, 50, []), (50, .iconst 2, 51, []), (51, .iload_n 1, 52, []), (52, .imul, 53, []), (53, .iadd, 54, []), (54, .iload_n 2, 55, []), (55, .iadd, 56, []), (56, .iload_n 3, 57, []), (57, .invokevirtual 89, 60, []), (60, .goto 9, 63, [69]), (63, .aload_n 0, 64, []), (64, .ldc 41, 66, []), (66, .invokevirtual 78, 69, []), (69, .ireturn, 70, [])]
theorem ok_X7_place : ∀ x ∈ C_X7_place, am_ok cX7_place 5 x = true := by decide +kernel
noncomputable def P_X7_place : AP := (PF_RX7, PK_RX7, PS_RX7, [(78, 2, F_X7_finds), (89, 3, F_X7_becomes), (111, 2, F_X7_isMember)], [(42, 3, F_X7_in), (75, 1, F_X7_isRoom)], [])
noncomputable def g_X7_place_63  (h : HP) : Option (Int32 × HP) := (f_X7_finds ((-1000000001)) h).bind (fun q_1 => some (q_1.1, q_1.2))
def pk_X7_place_63 (k : HP → Option (Int32 × HP)) : List AV → List AV → HP → Option (Int32 × HP) := fun L st h => match L, st with
  | [.inr (.inr (.inl (7, 0))), .inl _, .inl _, .inl _, .inl _], [] => k h
  | _, _ => none
theorem pk_X7_place_63_ok {Wp : List AV → List AV → HP → Prop} {r : (Int32 × HP)} {k : HP → Option (Int32 × HP)} (hk : ∀ (w1 : Int32) (w2 : Int32) (w3 : Int32) (w4 : Int32) (h : HP), k h = some r → Wp [.inr (.inr (.inl (7, 0))), .inl w1, .inl w2, .inl w3, .inl w4] [] h) : ∀ L st h, pk_X7_place_63 k L st h = some r → Wp L st h := by
  intro L st h q
  unfold pk_X7_place_63 at q
  split at q
  · exact hk _ _ _ _ _ q
  · cases q
noncomputable def g_X7_place_32 (a1 : Int32) (a2 : Int32) (a3 : Int32) (a4 : Int32) (h : HP) : Option (Int32 × HP) := (f_X7_isMember a1 h).bind (fun q_1 => if q_1.1 = (0 : Int32) then (g_X7_place_63 q_1.2) else (if a4 = (0 : Int32) then (g_X7_place_63 q_1.2) else ((f_X7_becomes ((52 + (2 * a1)) + a2) a3 q_1.2).bind (fun q_2 => some (q_2.1, q_2.2)))))
def pk_X7_place_32 (k : Int32 → Int32 → Int32 → Int32 → HP → Option (Int32 × HP)) : List AV → List AV → HP → Option (Int32 × HP) := fun L st h => match L, st with
  | [.inr (.inr (.inl (7, 0))), .inl a1, .inl a2, .inl a3, .inr (.inr (.inr ()))], [.inl a4] => k a1 a2 a3 a4 h
  | _, _ => none
theorem pk_X7_place_32_ok {Wp : List AV → List AV → HP → Prop} {r : (Int32 × HP)} {k : Int32 → Int32 → Int32 → Int32 → HP → Option (Int32 × HP)} (hk : ∀ (a1 : Int32) (a2 : Int32) (a3 : Int32) (a4 : Int32) (h : HP), k a1 a2 a3 a4 h = some r → Wp [.inr (.inr (.inl (7, 0))), .inl a1, .inl a2, .inl a3, .inr (.inr (.inr ()))] [.inl a4] h) : ∀ L st h, pk_X7_place_32 k L st h = some r → Wp L st h := by
  intro L st h q
  unfold pk_X7_place_32 at q
  split at q
  · exact hk _ _ _ _ _ q
  · cases q
noncomputable def f_X7_place (a1 : Int32) (a2 : Int32) (a3 : Int32) (h : HP) : Option (Int32 × HP) := if a2 = (0 : Int32) then ((f_X7_isRoom a3 h).bind (fun q_2 => g_X7_place_32 a1 a2 a3 q_2.1 q_2.2)) else (if a2 = (1 : Int32) then ((f_X7_in a3 0 9999 h).bind (fun q_1 => if q_1.1 = (0 : Int32) then (g_X7_place_32 a1 a2 a3 0 q_1.2) else (g_X7_place_32 a1 a2 a3 1 q_1.2))) else (g_X7_place_32 a1 a2 a3 0 h))
noncomputable def fl_X7_place : List AV → HP → Option (Int32 × HP) := fun as h => match as with
  | [.inr (.inr (.inl (7, 0))), .inl a1, .inl a2, .inl a3] => f_X7_place a1 a2 a3 h
  | _ => none
noncomputable def F_X7_place : AF := .inl fl_X7_place
set_option maxRecDepth 20000 in
theorem w_X7_place_63 {p : Program} {l : Launch} {e : Env} {R : Room} {s : State} {m : MethodId} {args : Array Value} {below : List Frame} {meth : Method} {c : Code} {cells slots : Nat} {G : AG} {Q : (Int32 × HP) → State → Prop} (CX : am_X p l e R s m args below meth c cells slots G 5 cX7_place RX7 am_tb P_X7_place am_rI Q) {r : (Int32 × HP)} : ∀ (w1 : Int32) (w2 : Int32) (w3 : Int32) (w4 : Int32) (h : HP), g_X7_place_63 h = some r → am_W p l e R s m args below meth c cells slots G 5 (Q r) 63 [.inr (.inr (.inl (7, 0))), .inl w1, .inl w2, .inl w3, .inl w4] [] h := by
  intro w1 w2 w3 w4 h q
  exact am_run_ok CX ok_X7_place (K := []) (am_K0 (Wp := am_W p l e R s m args below meth c cells slots G 5 (Q r))) 7 63 _ _ _ q
set_option maxRecDepth 20000 in
theorem w_X7_place_32 {p : Program} {l : Launch} {e : Env} {R : Room} {s : State} {m : MethodId} {args : Array Value} {below : List Frame} {meth : Method} {c : Code} {cells slots : Nat} {G : AG} {Q : (Int32 × HP) → State → Prop} (CX : am_X p l e R s m args below meth c cells slots G 5 cX7_place RX7 am_tb P_X7_place am_rI Q) {r : (Int32 × HP)} : ∀ (a1 : Int32) (a2 : Int32) (a3 : Int32) (a4 : Int32) (h : HP), g_X7_place_32 a1 a2 a3 a4 h = some r → am_W p l e R s m args below meth c cells slots G 5 (Q r) 32 [.inr (.inr (.inl (7, 0))), .inl a1, .inl a2, .inl a3, .inr (.inr (.inr ()))] [.inl a4] h := by
  intro a1 a2 a3 a4 h q
  exact am_run_ok CX ok_X7_place (K := [(63, pk_X7_place_63 (g_X7_place_63))]) (am_K1 (Wp := am_W p l e R s m args below meth c cells slots G 5 (Q r)) (pk_X7_place_63_ok (Wp := am_W p l e R s m args below meth c cells slots G 5 (Q r) 63) (w_X7_place_63 CX)) am_K0) 22 32 _ _ _ q
set_option maxRecDepth 20000 in
theorem b_X7_place (l : Launch) (G : AG) : am_B l G 5 cX7_place RX7 am_tb P_X7_place am_rI fl_X7_place := by
  intro p e R s m args below meth c cells slots Q CX as h r q
  unfold fl_X7_place at q
  split at q
  · exact am_run_ok CX ok_X7_place (K := [(32, pk_X7_place_32 (g_X7_place_32))]) (am_K1 (Wp := am_W p l e R s m args below meth c cells slots G 5 (Q r)) (pk_X7_place_32_ok (Wp := am_W p l e R s m args below meth c cells slots G 5 (Q r) 32) (w_X7_place_32 CX)) am_K0) 15 0 _ _ _ q
  · cases q
theorem s_X7_place : ∀ as h x, fl_X7_place as h = some x → (∀ k, (some 7 : Option Nat) = some k → ∃ (j : Nat) (as' : List AV), as = .inr (.inr (.inl (k, j))) :: as') ∧ (am_l0 as).length ≤ 5 := by
  intro as h x q
  unfold fl_X7_place at q
  split at q
  · exact ⟨fun k e => by cases e; exact ⟨_, _, rfl⟩, Nat.le_of_ble_eq_true rfl⟩
  · cases q
theorem M_X7_place (l : Launch) (G : AG) : am_M l G yX7_place cX7_place 5 (some .int) 2 43 (some 7) F_X7_place := am_M_of (f := fl_X7_place) (toR := fun x => (some (.inl x.1), x.2)) (P := P_X7_place) (Rr := am_rI) (own := RX7) (by decide) rfl (fun _ _ => rfl) s_X7_place am_wrI am_rkI pf_RX7 pk_RX7 ps_RX7 (List.forall_mem_cons.mpr ⟨cv_RX7_78 l G (by decide) (by decide), (List.forall_mem_cons.mpr ⟨cv_RX7_89 l G (by decide) (by decide), (List.forall_mem_cons.mpr ⟨cv_RX7_111 l G (by decide) (by decide), (fun _ q => by cases q)⟩)⟩)⟩) (List.forall_mem_cons.mpr ⟨cs_RX7_42 l G (by decide) (by decide), (List.forall_mem_cons.mpr ⟨cs_RX7_75 l G (by decide) (by decide), (fun _ q => by cases q)⟩)⟩) (fun _ q => by cases q) (b_X7_place l G)
def C_X7_loan : List AC := [(0, .iload_n 1, 1, []), (1, .iconst 0, 2, []), (2, .bipush 30, 4, []), (4, .invokestatic 42, 7, []), (7, .ifCond .eq 12, 10, [19]), (10, .aload_n 0, 11, []), (11, .iconst 1, 12, []), (12, .iload_n 1, 13, []), (13, .invokevirtual 89, 16, []), (16, .goto 9, 19, [25]), (19, .aload_n 0, 20, []), (20, .ldc 41, 22, []), (22, .invokevirtual 78, 25, []), (25, .ireturn, 26, [])]
theorem ok_X7_loan : ∀ x ∈ C_X7_loan, am_ok cX7_loan 2 x = true := by decide +kernel
noncomputable def P_X7_loan : AP := (PF_RX7, PK_RX7, PS_RX7, [(78, 2, F_X7_finds), (89, 3, F_X7_becomes)], [(42, 3, F_X7_in)], [])
noncomputable def f_X7_loan (a1 : Int32) (h : HP) : Option (Int32 × HP) := (f_X7_in a1 0 30 h).bind (fun q_1 => if q_1.1 = (0 : Int32) then ((f_X7_finds ((-1000000001)) q_1.2).bind (fun q_2 => some (q_2.1, q_2.2))) else ((f_X7_becomes 1 a1 q_1.2).bind (fun q_3 => some (q_3.1, q_3.2))))
noncomputable def fl_X7_loan : List AV → HP → Option (Int32 × HP) := fun as h => match as with
  | [.inr (.inr (.inl (7, 0))), .inl a1] => f_X7_loan a1 h
  | _ => none
noncomputable def F_X7_loan : AF := .inl fl_X7_loan
set_option maxRecDepth 20000 in
theorem b_X7_loan (l : Launch) (G : AG) : am_B l G 2 cX7_loan RX7 am_tb P_X7_loan am_rI fl_X7_loan := by
  intro p e R s m args below meth c cells slots Q CX as h r q
  unfold fl_X7_loan at q
  split at q
  · exact am_run_ok CX ok_X7_loan (K := []) (am_K0 (Wp := am_W p l e R s m args below meth c cells slots G 2 (Q r))) 14 0 _ _ _ q
  · cases q
theorem s_X7_loan : ∀ as h x, fl_X7_loan as h = some x → (∀ k, (some 7 : Option Nat) = some k → ∃ (j : Nat) (as' : List AV), as = .inr (.inr (.inl (k, j))) :: as') ∧ (am_l0 as).length ≤ 2 := by
  intro as h x q
  unfold fl_X7_loan at q
  split at q
  · exact ⟨fun k e => by cases e; exact ⟨_, _, rfl⟩, Nat.le_of_ble_eq_true rfl⟩
  · cases q
theorem M_X7_loan (l : Launch) (G : AG) : am_M l G yX7_loan cX7_loan 2 (some .int) 1 23 (some 7) F_X7_loan := am_M_of (f := fl_X7_loan) (toR := fun x => (some (.inl x.1), x.2)) (P := P_X7_loan) (Rr := am_rI) (own := RX7) (by decide) rfl (fun _ _ => rfl) s_X7_loan am_wrI am_rkI pf_RX7 pk_RX7 ps_RX7 (List.forall_mem_cons.mpr ⟨cv_RX7_78 l G (by decide) (by decide), (List.forall_mem_cons.mpr ⟨cv_RX7_89 l G (by decide) (by decide), (fun _ q => by cases q)⟩)⟩) (List.forall_mem_cons.mpr ⟨cs_RX7_42 l G (by decide) (by decide), (fun _ q => by cases q)⟩) (fun _ q => by cases q) (b_X7_loan l G)
def C_X7_hasPair : List AC := [(0, .iconst 0, 1, []), (1, .istore_n 3, 2, []), (2, .iconst 0, 3, []), (3, .istore 4, 5, []), (5, .iload 4, 7, []), (7, .aload_n 0, 8, []), (8, .getfield 7, 11, []), (11, .iconst 2, 12, []), (12, .iaload, 13, []), (13, .if_icmp .ge 46, 16, [59]), (16, .iload_n 3, 17, []), (17, .ifCond .ne 30, 20, [47]), (20, .aload_n 0, 21, []), (21, .iload 4, 23, []), (23, .iconst 4, 24, []), (24, .invokevirtual 46, 27, []), (27, .iload_n 1, 28, []), (28, .if_icmp .ne 23, 31, [51]), (31, .iload 4, 33, []), (33, .iload_n 2, 34, []), (34, .if_icmp .eq 17, 37, [51]), (37, .aload_n 0, 38, []), (38, .iload 4, 40, []), (40, .iload_n 2, 41, []), (41, .invokevirtual 101, 44, []), (44, .ifCond .eq 7, 47, [51]), (47, .iconst 1, 48, []), (48, .goto 4, 51, [52]), (51, .iconst 0, 52, []), (52, .istore_n 3, 53, []), (53, .iinc 4 1, 56, []), (56, .goto (-51), 59, [5]), (59, .iload_n 3, 60, []), (60, .ireturn, 61, [])]
theorem ok_X7_hasPair : ∀ x ∈ C_X7_hasPair, am_ok cX7_hasPair 5 x = true := by decide +kernel
noncomputable def P_X7_hasPair : AP := (PF_RX7, PK_RX7, PS_RX7, [(46, 3, F_X7_its), (101, 3, F_X7_arePair)], [], [])
noncomputable def g_X7_hasPair_5  : Nat → Int32 → Int32 → Int32 → Int32 → HP → Option (Int32 × HP)
  | 0, _, _, _, _, _ => none
  | n + 1, a1, a2, a3, a4, h => (am_ix (2 : Int32) 64).bind (fun k_1 => if h_rI h 13 0 k_1 ≤ a4 then (some (a3 &&& 1, h)) else (if a3 = (0 : Int32) then ((f_X7_its a4 4 h).bind (fun q_2 => if q_2.1 = a1 then (if a4 = a2 then (g_X7_hasPair_5 n a1 a2 0 (a4 + 1) q_2.2) else ((f_X7_arePair a4 a2 q_2.2).bind (fun q_3 => if q_3.1 = (0 : Int32) then (g_X7_hasPair_5 n a1 a2 0 (a4 + 1) q_3.2) else (g_X7_hasPair_5 n a1 a2 1 (a4 + 1) q_3.2)))) else (g_X7_hasPair_5 n a1 a2 0 (a4 + 1) q_2.2))) else (g_X7_hasPair_5 n a1 a2 1 (a4 + 1) h)))
def pk_X7_hasPair_5 (k : Int32 → Int32 → Int32 → Int32 → HP → Option (Int32 × HP)) : List AV → List AV → HP → Option (Int32 × HP) := fun L st h => match L, st with
  | [.inr (.inr (.inl (7, 0))), .inl a1, .inl a2, .inl a3, .inl a4], [] => k a1 a2 a3 a4 h
  | _, _ => none
theorem pk_X7_hasPair_5_ok {Wp : List AV → List AV → HP → Prop} {r : (Int32 × HP)} {k : Int32 → Int32 → Int32 → Int32 → HP → Option (Int32 × HP)} (hk : ∀ (a1 : Int32) (a2 : Int32) (a3 : Int32) (a4 : Int32) (h : HP), k a1 a2 a3 a4 h = some r → Wp [.inr (.inr (.inl (7, 0))), .inl a1, .inl a2, .inl a3, .inl a4] [] h) : ∀ L st h, pk_X7_hasPair_5 k L st h = some r → Wp L st h := by
  intro L st h q
  unfold pk_X7_hasPair_5 at q
  split at q
  · exact hk _ _ _ _ _ q
  · cases q
noncomputable def f_X7_hasPair (a1 : Int32) (a2 : Int32) (h : HP) : Option (Int32 × HP) := g_X7_hasPair_5 am_fu a1 a2 0 0 h
noncomputable def fl_X7_hasPair : List AV → HP → Option (Int32 × HP) := fun as h => match as with
  | [.inr (.inr (.inl (7, 0))), .inl a1, .inl a2] => f_X7_hasPair a1 a2 h
  | _ => none
noncomputable def F_X7_hasPair : AF := .inl fl_X7_hasPair
set_option maxRecDepth 20000 in
theorem w_X7_hasPair_5 {p : Program} {l : Launch} {e : Env} {R : Room} {s : State} {m : MethodId} {args : Array Value} {below : List Frame} {meth : Method} {c : Code} {cells slots : Nat} {G : AG} {Q : (Int32 × HP) → State → Prop} (CX : am_X p l e R s m args below meth c cells slots G 5 cX7_hasPair RX7 am_tb P_X7_hasPair am_rZ Q) {r : (Int32 × HP)} : ∀ (n : Nat) (a1 : Int32) (a2 : Int32) (a3 : Int32) (a4 : Int32) (h : HP), g_X7_hasPair_5 n a1 a2 a3 a4 h = some r → am_W p l e R s m args below meth c cells slots G 5 (Q r) 5 [.inr (.inr (.inl (7, 0))), .inl a1, .inl a2, .inl a3, .inl a4] [] h := by
  intro n
  induction n with
  | zero =>
    intro a1 a2 a3 a4 h q
    have q9 : (none : Option (Int32 × HP)) = some r := q
    cases q9
  | succ n ih =>
    intro a1 a2 a3 a4 h q
    exact am_run_ok CX ok_X7_hasPair (K := [(5, pk_X7_hasPair_5 (g_X7_hasPair_5 n))]) (am_K1 (Wp := am_W p l e R s m args below meth c cells slots G 5 (Q r)) (pk_X7_hasPair_5_ok (Wp := am_W p l e R s m args below meth c cells slots G 5 (Q r) 5) ih) am_K0) 30 5 _ _ _ q
set_option maxRecDepth 20000 in
theorem b_X7_hasPair (l : Launch) (G : AG) : am_B l G 5 cX7_hasPair RX7 am_tb P_X7_hasPair am_rZ fl_X7_hasPair := by
  intro p e R s m args below meth c cells slots Q CX as h r q
  unfold fl_X7_hasPair at q
  split at q
  · exact am_run_ok CX ok_X7_hasPair (K := [(5, pk_X7_hasPair_5 (g_X7_hasPair_5 am_fu))]) (am_K1 (Wp := am_W p l e R s m args below meth c cells slots G 5 (Q r)) (pk_X7_hasPair_5_ok (Wp := am_W p l e R s m args below meth c cells slots G 5 (Q r) 5) (w_X7_hasPair_5 CX am_fu)) am_K0) 7 0 _ _ _ q
  · cases q
theorem s_X7_hasPair : ∀ as h x, fl_X7_hasPair as h = some x → (∀ k, (some 7 : Option Nat) = some k → ∃ (j : Nat) (as' : List AV), as = .inr (.inr (.inl (k, j))) :: as') ∧ (am_l0 as).length ≤ 5 := by
  intro as h x q
  unfold fl_X7_hasPair at q
  split at q
  · exact ⟨fun k e => by cases e; exact ⟨_, _, rfl⟩, Nat.le_of_ble_eq_true rfl⟩
  · cases q
theorem M_X7_hasPair (l : Launch) (G : AG) : am_M l G yX7_hasPair cX7_hasPair 5 (some .boolean) 2 48 (some 7) F_X7_hasPair := am_M_of (f := fl_X7_hasPair) (toR := fun x => (some (.inl x.1), x.2)) (P := P_X7_hasPair) (Rr := am_rZ) (own := RX7) (by decide) rfl (fun _ _ => rfl) s_X7_hasPair am_wrI am_rkZ pf_RX7 pk_RX7 ps_RX7 (List.forall_mem_cons.mpr ⟨cv_RX7_46 l G (by decide) (by decide), (List.forall_mem_cons.mpr ⟨cv_RX7_101 l G (by decide) (by decide), (fun _ q => by cases q)⟩)⟩) (fun _ q => by cases q) (fun _ q => by cases q) (b_X7_hasPair l G)
theorem cv_RX7_123 (l : Launch) (G : AG) {fr lo : Nat} (h1 : 2 + 1 ≤ fr) (h2 : 8 + (5 + 11) + 48 ≤ lo) : am_cvOK l G RX7 fr lo (123, 3, F_X7_hasPair) := ⟨yX7_hasPair, cX7_hasPair, 5, (some .boolean), 2, 48, 7, RX7, M_X7_hasPair l G, ⟨(am_tb_mem (wd_20 _ (List.mem_of_getElem? (i := 10) rfl))), (am_tb_mem (wd_20 _ (List.mem_of_getElem? (i := 11) rfl))), (am_tb_mem (wd_0 _ (List.mem_of_getElem? (i := 30) rfl))), (am_tb_mem (wd_1 _ (List.mem_of_getElem? (i := 26) rfl))), (am_tb_mem (wd_20 _ (List.mem_of_getElem? (i := 12) rfl)))⟩, ⟨rfl, by decide, by decide, by decide +kernel⟩, Or.inl ⟨by decide, rfl⟩, h1, h2⟩
theorem cs_RX7_120 (l : Launch) (G : AG) {fr lo : Nat} (h1 : 0 + 1 ≤ fr) (h2 : 8 + (3 + 11) + 0 ≤ lo) : am_csOK l G RX7 fr lo (120, 1, F_X7_bits) := Or.inl ⟨yX7_bits, cX7_bits, 3, (some .int), 0, 0, M_X7_bits l G, ⟨(am_tb_mem (wd_20 _ (List.mem_of_getElem? (i := 7) rfl))), (am_tb_mem (wd_20 _ (List.mem_of_getElem? (i := 8) rfl))), (am_tb_mem (wd_1 _ (List.mem_of_getElem? (i := 26) rfl))), (am_tb_mem (wd_20 _ (List.mem_of_getElem? (i := 9) rfl)))⟩, ⟨by decide, by decide, by decide +kernel⟩, h1, h2⟩
def C_X7_mayHave : List AC := [(0, .aload_n 0, 1, []), (1, .iload_n 2, 2, []), (2, .iconst 4, 3, []), (3, .invokevirtual 46, 6, []), (6, .iconst (-1), 7, []), (7, .if_icmp .ne 28, 10, [35]), (10, .aload_n 0, 11, []), (11, .iload_n 1, 12, []), (12, .invokevirtual 114, 15, []), (15, .invokestatic 120, 18, []), (18, .iconst 3, 19, []), (19, .if_icmp .ge 16, 22, [35]), (22, .aload_n 0, 23, []), (23, .iload_n 1, 24, []), (24, .iload_n 2, 25, []), (25, .invokevirtual 123, 28, []), (28, .ifCond .ne 7, 31, [35]), (31, .iconst 1, 32, []), (32, .goto 4, 35, [36]), (35, .iconst 0, 36, []), (36, .ireturn, 37, [])]
theorem ok_X7_mayHave : ∀ x ∈ C_X7_mayHave, am_ok cX7_mayHave 3 x = true := by decide +kernel
noncomputable def P_X7_mayHave : AP := (PF_RX7, PK_RX7, PS_RX7, [(46, 3, F_X7_its), (114, 2, F_X7_holds), (123, 3, F_X7_hasPair)], [(120, 1, F_X7_bits)], [])
noncomputable def f_X7_mayHave (a1 : Int32) (a2 : Int32) (h : HP) : Option (Int32 × HP) := (f_X7_its a2 4 h).bind (fun q_1 => if q_1.1 = ((-1) : Int32) then ((f_X7_holds a1 q_1.2).bind (fun q_2 => (f_X7_bits q_2.1 q_2.2).bind (fun q_3 => if (3 : Int32) ≤ q_3.1 then (some (0, q_3.2)) else ((f_X7_hasPair a1 a2 q_3.2).bind (fun q_4 => if q_4.1 = (0 : Int32) then (some (1, q_4.2)) else (some (0, q_4.2))))))) else (some (0, q_1.2)))
noncomputable def fl_X7_mayHave : List AV → HP → Option (Int32 × HP) := fun as h => match as with
  | [.inr (.inr (.inl (7, 0))), .inl a1, .inl a2] => f_X7_mayHave a1 a2 h
  | _ => none
noncomputable def F_X7_mayHave : AF := .inl fl_X7_mayHave
set_option maxRecDepth 20000 in
theorem b_X7_mayHave (l : Launch) (G : AG) : am_B l G 3 cX7_mayHave RX7 am_tb P_X7_mayHave am_rZ fl_X7_mayHave := by
  intro p e R s m args below meth c cells slots Q CX as h r q
  unfold fl_X7_mayHave at q
  split at q
  · exact am_run_ok CX ok_X7_mayHave (K := []) (am_K0 (Wp := am_W p l e R s m args below meth c cells slots G 3 (Q r))) 23 0 _ _ _ q
  · cases q
theorem s_X7_mayHave : ∀ as h x, fl_X7_mayHave as h = some x → (∀ k, (some 7 : Option Nat) = some k → ∃ (j : Nat) (as' : List AV), as = .inr (.inr (.inl (k, j))) :: as') ∧ (am_l0 as).length ≤ 3 := by
  intro as h x q
  unfold fl_X7_mayHave at q
  split at q
  · exact ⟨fun k e => by cases e; exact ⟨_, _, rfl⟩, Nat.le_of_ble_eq_true rfl⟩
  · cases q
theorem M_X7_mayHave (l : Launch) (G : AG) : am_M l G yX7_mayHave cX7_mayHave 3 (some .boolean) 3 72 (some 7) F_X7_mayHave := am_M_of (f := fl_X7_mayHave) (toR := fun x => (some (.inl x.1), x.2)) (P := P_X7_mayHave) (Rr := am_rZ) (own := RX7) (by decide) rfl (fun _ _ => rfl) s_X7_mayHave am_wrI am_rkZ pf_RX7 pk_RX7 ps_RX7 (List.forall_mem_cons.mpr ⟨cv_RX7_46 l G (by decide) (by decide), (List.forall_mem_cons.mpr ⟨cv_RX7_114 l G (by decide) (by decide), (List.forall_mem_cons.mpr ⟨cv_RX7_123 l G (by decide) (by decide), (fun _ q => by cases q)⟩)⟩)⟩) (List.forall_mem_cons.mpr ⟨cs_RX7_120 l G (by decide) (by decide), (fun _ q => by cases q)⟩) (fun _ q => by cases q) (b_X7_mayHave l G)
def C_X7_lends : List AC := [(0, .aload_n 0, 1, []), (1, .iload_n 1, 2, []), (2, .iconst 4, 3, []), (3, .iload_n 2, 4, []), (4, .invokevirtual 68, 7, []), (7, .aload_n 0, 8, []), (8, .iload_n 1, 9, []), (9, .iconst 5, 10, []), (10, .iconst 0, 11, []), (11, .invokevirtual 68, 14, []), (14, .return_, 15, [])]
theorem ok_X7_lends : ∀ x ∈ C_X7_lends, am_ok cX7_lends 3 x = true := by decide +kernel
noncomputable def P_X7_lends : AP := (PF_RX7, PK_RX7, PS_RX7, [(68, 4, F_X7_puts)], [], [])
noncomputable def f_X7_lends (a1 : Int32) (a2 : Int32) (h : HP) : Option HP := (f_X7_puts a1 4 a2 h).bind (fun q_1 => (f_X7_puts a1 5 0 q_1).bind (fun q_2 => some q_2))
noncomputable def fl_X7_lends : List AV → HP → Option HP := fun as h => match as with
  | [.inr (.inr (.inl (7, 0))), .inl a1, .inl a2] => f_X7_lends a1 a2 h
  | _ => none
noncomputable def F_X7_lends : AF := .inr (.inl fl_X7_lends)
set_option maxRecDepth 20000 in
theorem b_X7_lends (l : Launch) (G : AG) : am_B l G 3 cX7_lends RX7 am_tb P_X7_lends am_rV fl_X7_lends := by
  intro p e R s m args below meth c cells slots Q CX as h r q
  unfold fl_X7_lends at q
  split at q
  · exact am_run_ok CX ok_X7_lends (K := []) (am_K0 (Wp := am_W p l e R s m args below meth c cells slots G 3 (Q r))) 14 0 _ _ _ q
  · cases q
theorem s_X7_lends : ∀ as h x, fl_X7_lends as h = some x → (∀ k, (some 7 : Option Nat) = some k → ∃ (j : Nat) (as' : List AV), as = .inr (.inr (.inl (k, j))) :: as') ∧ (am_l0 as).length ≤ 3 := by
  intro as h x q
  unfold fl_X7_lends at q
  split at q
  · exact ⟨fun k e => by cases e; exact ⟨_, _, rfl⟩, Nat.le_of_ble_eq_true rfl⟩
  · cases q
theorem M_X7_lends (l : Launch) (G : AG) : am_M l G yX7_lends cX7_lends 3 none 1 23 (some 7) F_X7_lends := am_M_of (f := fl_X7_lends) (toR := fun x => (none, x)) (P := P_X7_lends) (Rr := am_rV) (own := RX7) (by decide) rfl (fun _ _ => rfl) s_X7_lends am_wrV am_rkV pf_RX7 pk_RX7 ps_RX7 (List.forall_mem_cons.mpr ⟨cv_RX7_68 l G (by decide) (by decide), (fun _ q => by cases q)⟩) (fun _ q => by cases q) (fun _ q => by cases q) (b_X7_lends l G)
theorem cv_RX7_127 (l : Launch) (G : AG) {fr lo : Nat} (h1 : 1 + 1 ≤ fr) (h2 : 8 + (3 + 11) + 23 ≤ lo) : am_cvOK l G RX7 fr lo (127, 3, F_X7_lends) := ⟨yX7_lends, cX7_lends, 3, none, 1, 23, 7, RX7, M_X7_lends l G, ⟨(am_tb_mem (wd_20 _ (List.mem_of_getElem? (i := 13) rfl))), (am_tb_mem (wd_20 _ (List.mem_of_getElem? (i := 14) rfl))), (am_tb_mem (wd_0 _ (List.mem_of_getElem? (i := 31) rfl))), (am_tb_mem (wd_1 _ (List.mem_of_getElem? (i := 26) rfl))), (am_tb_mem (wd_20 _ (List.mem_of_getElem? (i := 15) rfl)))⟩, ⟨rfl, by decide, by decide, by decide +kernel⟩, Or.inl ⟨by decide, rfl⟩, h1, h2⟩
def C_X7_lend : List AC := [(0, .aload_n 0, 1, []), (1, .iload_n 1, 2, []), (2, .invokevirtual 86, 5, []), (5, .ifCond .eq 11, 8, [16]), (8, .aload_n 0, 9, []), (9, .iload_n 2, 10, []), (10, .invokevirtual 111, 13, []), (13, .ifCond .ne 10, 16, [23]), (16, .aload_n 0, 17, []), (17, .ldc 41, 19, []), (19, .invokevirtual 78, 22, []), (22, .ireturn, 23, []), (23, .aload_n 0, 24, []), (24, .iload_n 1, 25, []), (25, .iconst 4, 26, []), (26, .invokevirtual 46, 29, []), (29, .iconst (-1), 30, []), (30, .if_icmp .eq 10, 33, [40]), (33, .aload_n 0, 34, []), (34, .ldc 126, 36, []), (36, .invokevirtual 78, 39, []), (39, .ireturn, 40, []), (40, .aload_n 0, 41, []), (41, .iload_n 2, 42, []), (42, .invokevirtual 114, 45, []), (45, .invokestatic 120, 48, []), (48, .iconst 3, 49, []), (49, .if_icmp .lt 10, 52, [59]), (52, .aload_n 0, 53, []), (53, .ldc 81, 55, []), (55, .invokevirtual 78, 58, []), (58, .ireturn, 59, []), (59, .aload_n 0, 60, []), (60, .iload_n 2, 61, []), (61, .iload_n 1, 62, []), (62, .invokevirtual 123, 65, []), (65, .ifCond .eq 10, 68, [75]), (68, .aload_n 0, 69, []), (69, .ldc 92, 71, []), (71, .invokevirtual 78, 74, []), (74, .ireturn, 75, []), (75, .aload_n 0, 76, []), (76, .iload_n 1, 77, []), (77, .iload_n 2, 78, []), (78, .invokevirtual 127, 81, []), (81, .aload_n 0, 82, []), (82, .iload_n 2, 83, []), (83, .invokevirtual 114, 86, []), (86, .invokestatic 120, 89, []), (89, .ireturn, 90, [])]
theorem ok_X7_lend : ∀ x ∈ C_X7_lend, am_ok cX7_lend 3 x = true := by decide +kernel
noncomputable def P_X7_lend : AP := (PF_RX7, PK_RX7, PS_RX7, [(46, 3, F_X7_its), (78, 2, F_X7_finds), (86, 2, F_X7_isOne), (111, 2, F_X7_isMember), (114, 2, F_X7_holds), (123, 3, F_X7_hasPair), (127, 3, F_X7_lends)], [(120, 1, F_X7_bits)], [])
noncomputable def g_X7_lend_16  (h : HP) : Option (Int32 × HP) := (f_X7_finds ((-1000000001)) h).bind (fun q_1 => some (q_1.1, q_1.2))
def pk_X7_lend_16 (k : HP → Option (Int32 × HP)) : List AV → List AV → HP → Option (Int32 × HP) := fun L st h => match L, st with
  | [.inr (.inr (.inl (7, 0))), .inl _, .inl _], [] => k h
  | _, _ => none
theorem pk_X7_lend_16_ok {Wp : List AV → List AV → HP → Prop} {r : (Int32 × HP)} {k : HP → Option (Int32 × HP)} (hk : ∀ (w1 : Int32) (w2 : Int32) (h : HP), k h = some r → Wp [.inr (.inr (.inl (7, 0))), .inl w1, .inl w2] [] h) : ∀ L st h, pk_X7_lend_16 k L st h = some r → Wp L st h := by
  intro L st h q
  unfold pk_X7_lend_16 at q
  split at q
  · exact hk _ _ _ q
  · cases q
noncomputable def f_X7_lend (a1 : Int32) (a2 : Int32) (h : HP) : Option (Int32 × HP) := (f_X7_isOne a1 h).bind (fun q_1 => if q_1.1 = (0 : Int32) then (g_X7_lend_16 q_1.2) else ((f_X7_isMember a2 q_1.2).bind (fun q_2 => if q_2.1 = (0 : Int32) then (g_X7_lend_16 q_2.2) else ((f_X7_its a1 4 q_2.2).bind (fun q_3 => if q_3.1 = ((-1) : Int32) then ((f_X7_holds a2 q_3.2).bind (fun q_4 => (f_X7_bits q_4.1 q_4.2).bind (fun q_5 => if q_5.1 < (3 : Int32) then ((f_X7_hasPair a2 a1 q_5.2).bind (fun q_6 => if q_6.1 = (0 : Int32) then ((f_X7_lends a1 a2 q_6.2).bind (fun q_7 => (f_X7_holds a2 q_7).bind (fun q_8 => (f_X7_bits q_8.1 q_8.2).bind (fun q_9 => some (q_9.1, q_9.2))))) else ((f_X7_finds ((-1000000003)) q_6.2).bind (fun q_10 => some (q_10.1, q_10.2))))) else ((f_X7_finds ((-1000000002)) q_5.2).bind (fun q_11 => some (q_11.1, q_11.2)))))) else ((f_X7_finds ((-1000000005)) q_3.2).bind (fun q_12 => some (q_12.1, q_12.2))))))))
noncomputable def fl_X7_lend : List AV → HP → Option (Int32 × HP) := fun as h => match as with
  | [.inr (.inr (.inl (7, 0))), .inl a1, .inl a2] => f_X7_lend a1 a2 h
  | _ => none
noncomputable def F_X7_lend : AF := .inl fl_X7_lend
set_option maxRecDepth 20000 in
theorem w_X7_lend_16 {p : Program} {l : Launch} {e : Env} {R : Room} {s : State} {m : MethodId} {args : Array Value} {below : List Frame} {meth : Method} {c : Code} {cells slots : Nat} {G : AG} {Q : (Int32 × HP) → State → Prop} (CX : am_X p l e R s m args below meth c cells slots G 3 cX7_lend RX7 am_tb P_X7_lend am_rI Q) {r : (Int32 × HP)} : ∀ (w1 : Int32) (w2 : Int32) (h : HP), g_X7_lend_16 h = some r → am_W p l e R s m args below meth c cells slots G 3 (Q r) 16 [.inr (.inr (.inl (7, 0))), .inl w1, .inl w2] [] h := by
  intro w1 w2 h q
  exact am_run_ok CX ok_X7_lend (K := []) (am_K0 (Wp := am_W p l e R s m args below meth c cells slots G 3 (Q r))) 7 16 _ _ _ q
set_option maxRecDepth 20000 in
theorem b_X7_lend (l : Launch) (G : AG) : am_B l G 3 cX7_lend RX7 am_tb P_X7_lend am_rI fl_X7_lend := by
  intro p e R s m args below meth c cells slots Q CX as h r q
  unfold fl_X7_lend at q
  split at q
  · exact am_run_ok CX ok_X7_lend (K := [(16, pk_X7_lend_16 (g_X7_lend_16))]) (am_K1 (Wp := am_W p l e R s m args below meth c cells slots G 3 (Q r)) (pk_X7_lend_16_ok (Wp := am_W p l e R s m args below meth c cells slots G 3 (Q r) 16) (w_X7_lend_16 CX)) am_K0) 37 0 _ _ _ q
  · cases q
theorem s_X7_lend : ∀ as h x, fl_X7_lend as h = some x → (∀ k, (some 7 : Option Nat) = some k → ∃ (j : Nat) (as' : List AV), as = .inr (.inr (.inl (k, j))) :: as') ∧ (am_l0 as).length ≤ 3 := by
  intro as h x q
  unfold fl_X7_lend at q
  split at q
  · exact ⟨fun k e => by cases e; exact ⟨_, _, rfl⟩, Nat.le_of_ble_eq_true rfl⟩
  · cases q
theorem M_X7_lend (l : Launch) (G : AG) : am_M l G yX7_lend cX7_lend 3 (some .int) 3 72 (some 7) F_X7_lend := am_M_of (f := fl_X7_lend) (toR := fun x => (some (.inl x.1), x.2)) (P := P_X7_lend) (Rr := am_rI) (own := RX7) (by decide) rfl (fun _ _ => rfl) s_X7_lend am_wrI am_rkI pf_RX7 pk_RX7 ps_RX7 (List.forall_mem_cons.mpr ⟨cv_RX7_46 l G (by decide) (by decide), (List.forall_mem_cons.mpr ⟨cv_RX7_78 l G (by decide) (by decide), (List.forall_mem_cons.mpr ⟨cv_RX7_86 l G (by decide) (by decide), (List.forall_mem_cons.mpr ⟨cv_RX7_111 l G (by decide) (by decide), (List.forall_mem_cons.mpr ⟨cv_RX7_114 l G (by decide) (by decide), (List.forall_mem_cons.mpr ⟨cv_RX7_123 l G (by decide) (by decide), (List.forall_mem_cons.mpr ⟨cv_RX7_127 l G (by decide) (by decide), (fun _ q => by cases q)⟩)⟩)⟩)⟩)⟩)⟩)⟩) (List.forall_mem_cons.mpr ⟨cs_RX7_120 l G (by decide) (by decide), (fun _ q => by cases q)⟩) (fun _ q => by cases q) (b_X7_lend l G)
def C_X7_back : List AC := [(0, .aload_n 0, 1, []), (1, .iload_n 1, 2, []), (2, .invokevirtual 86, 5, []), (5, .ifCond .ne 10, 8, [15]), (8, .aload_n 0, 9, []), (9, .ldc 41, 11, []), (11, .invokevirtual 78, 14, []), (14, .ireturn, 15, []), (15, .aload_n 0, 16, []), (16, .iload_n 1, 17, []), (17, .iconst 4, 18, []), (18, .invokevirtual 46, 21, []), (21, .iconst (-1), 22, []), (22, .if_icmp .ne 10, 25, [32]), (25, .aload_n 0, 26, []), (26, .ldc 126, 28, []), (28, .invokevirtual 78, 31, []), (31, .ireturn, 32, []), (32, .aload_n 0, 33, []), (33, .iload_n 1, 34, []), (34, .iconst 5, 35, []), (35, .invokevirtual 46, 38, []), (38, .istore_n 2, 39, []), (39, .aload_n 0, 40, []), (40, .iload_n 1, 41, []), (41, .iconst (-1), 42, []), (42, .invokevirtual 127, 45, []), (45, .iload_n 2, 46, []), (46, .ireturn, 47, [])]
theorem ok_X7_back : ∀ x ∈ C_X7_back, am_ok cX7_back 3 x = true := by decide +kernel
noncomputable def P_X7_back : AP := (PF_RX7, PK_RX7, PS_RX7, [(46, 3, F_X7_its), (78, 2, F_X7_finds), (86, 2, F_X7_isOne), (127, 3, F_X7_lends)], [], [])
noncomputable def f_X7_back (a1 : Int32) (h : HP) : Option (Int32 × HP) := (f_X7_isOne a1 h).bind (fun q_1 => if q_1.1 = (0 : Int32) then ((f_X7_finds ((-1000000001)) q_1.2).bind (fun q_6 => some (q_6.1, q_6.2))) else ((f_X7_its a1 4 q_1.2).bind (fun q_2 => if q_2.1 = ((-1) : Int32) then ((f_X7_finds ((-1000000005)) q_2.2).bind (fun q_5 => some (q_5.1, q_5.2))) else ((f_X7_its a1 5 q_2.2).bind (fun q_3 => (f_X7_lends a1 ((-1)) q_3.2).bind (fun q_4 => some (q_3.1, q_4)))))))
noncomputable def fl_X7_back : List AV → HP → Option (Int32 × HP) := fun as h => match as with
  | [.inr (.inr (.inl (7, 0))), .inl a1] => f_X7_back a1 h
  | _ => none
noncomputable def F_X7_back : AF := .inl fl_X7_back
set_option maxRecDepth 20000 in
theorem b_X7_back (l : Launch) (G : AG) : am_B l G 3 cX7_back RX7 am_tb P_X7_back am_rI fl_X7_back := by
  intro p e R s m args below meth c cells slots Q CX as h r q
  unfold fl_X7_back at q
  split at q
  · exact am_run_ok CX ok_X7_back (K := []) (am_K0 (Wp := am_W p l e R s m args below meth c cells slots G 3 (Q r))) 24 0 _ _ _ q
  · cases q
theorem s_X7_back : ∀ as h x, fl_X7_back as h = some x → (∀ k, (some 7 : Option Nat) = some k → ∃ (j : Nat) (as' : List AV), as = .inr (.inr (.inl (k, j))) :: as') ∧ (am_l0 as).length ≤ 3 := by
  intro as h x q
  unfold fl_X7_back at q
  split at q
  · exact ⟨fun k e => by cases e; exact ⟨_, _, rfl⟩, Nat.le_of_ble_eq_true rfl⟩
  · cases q
theorem M_X7_back (l : Launch) (G : AG) : am_M l G yX7_back cX7_back 3 (some .int) 2 45 (some 7) F_X7_back := am_M_of (f := fl_X7_back) (toR := fun x => (some (.inl x.1), x.2)) (P := P_X7_back) (Rr := am_rI) (own := RX7) (by decide) rfl (fun _ _ => rfl) s_X7_back am_wrI am_rkI pf_RX7 pk_RX7 ps_RX7 (List.forall_mem_cons.mpr ⟨cv_RX7_46 l G (by decide) (by decide), (List.forall_mem_cons.mpr ⟨cv_RX7_78 l G (by decide) (by decide), (List.forall_mem_cons.mpr ⟨cv_RX7_86 l G (by decide) (by decide), (List.forall_mem_cons.mpr ⟨cv_RX7_127 l G (by decide) (by decide), (fun _ q => by cases q)⟩)⟩)⟩)⟩) (fun _ q => by cases q) (fun _ q => by cases q) (b_X7_back l G)
theorem cv_RX7_131 (l : Launch) (G : AG) {fr lo : Nat} (h1 : 2 + 1 ≤ fr) (h2 : 8 + (2 + 11) + 43 ≤ lo) : am_cvOK l G RX7 fr lo (131, 2, F_X7_wearsBy) := ⟨yX7_wearsBy, cX7_wearsBy, 2, none, 2, 43, 7, RX7, M_X7_wearsBy l G, ⟨(am_tb_mem (wd_20 _ (List.mem_of_getElem? (i := 24) rfl))), (am_tb_mem (wd_20 _ (List.mem_of_getElem? (i := 25) rfl))), (am_tb_mem (wd_0 _ (List.mem_of_getElem? (i := 32) rfl))), (am_tb_mem (wd_1 _ (List.mem_of_getElem? (i := 26) rfl))), (am_tb_mem (wd_20 _ (List.mem_of_getElem? (i := 26) rfl)))⟩, ⟨rfl, by decide, by decide, by decide +kernel⟩, Or.inl ⟨by decide, rfl⟩, h1, h2⟩
def C_X7_use : List AC := [(0, .aload_n 0, 1, []), (1, .iload_n 1, 2, []), (2, .invokevirtual 111, 5, []), (5, .ifCond .eq 11, 8, [16]), (8, .aload_n 0, 9, []), (9, .iload_n 2, 10, []), (10, .invokevirtual 86, 13, []), (13, .ifCond .ne 10, 16, [23]), (16, .aload_n 0, 17, []), (17, .ldc 41, 19, []), (19, .invokevirtual 78, 22, []), (22, .ireturn, 23, []), (23, .aload_n 0, 24, []), (24, .iload_n 1, 25, []), (25, .iconst 0, 26, []), (26, .invokevirtual 108, 29, []), (29, .istore_n 3, 30, []), (30, .aload_n 0, 31, []), (31, .iload_n 2, 32, []), (32, .iconst 4, 33, []), (33, .invokevirtual 46, 36, []), (36, .iload_n 1, 37, []), (37, .if_icmp .ne 12, 40, [49]), (40, .aload_n 0, 41, []), (41, .iload_n 2, 42, []), (42, .iload_n 3, 43, []), (43, .invokevirtual 93, 46, []), (46, .ifCond .ne 10, 49, [56]), (49, .aload_n 0, 50, []), (50, .ldc 126, 52, []), (52, .invokevirtual 78, 55, []), (55, .ireturn, 56, []), (56, .aload_n 0, 57, []), (57, .getfield 7, 60, []), (60, .bipush 52, 62, []), (62, .iconst 2, 63, []), (63, .iload_n 1, 64, []), (64, .imul, 65, []), (65, .iadd, 66, []), (66, .aload_n 0, 67, []), (67, .iload_n 2, 68, []), (68, .iload_n 3, 69, []), (69, .invokevirtual 97, 72, []), (72, .iastore, 73, []), (73, .aload_n 0, 74, []), (74, .iload_n 2, 75, []), (75, .invokevirtual 131, 78, []), (78, .aload_n 0, 79, []), (79, .iload_n 1, 80, []), (80, .iconst 0, 81, []), (81, .invokevirtual 108, 84, []), (84, .ireturn, 85, [])]
theorem ok_X7_use : ∀ x ∈ C_X7_use, am_ok cX7_use 4 x = true := by decide +kernel
noncomputable def P_X7_use : AP := (PF_RX7, PK_RX7, PS_RX7, [(46, 3, F_X7_its), (78, 2, F_X7_finds), (86, 2, F_X7_isOne), (93, 3, F_X7_opens), (97, 3, F_X7_leadsTo), (108, 3, F_X7_whose), (111, 2, F_X7_isMember), (131, 2, F_X7_wearsBy)], [], [])
noncomputable def g_X7_use_49  (h : HP) : Option (Int32 × HP) := (f_X7_finds ((-1000000005)) h).bind (fun q_1 => some (q_1.1, q_1.2))
def pk_X7_use_49 (k : HP → Option (Int32 × HP)) : List AV → List AV → HP → Option (Int32 × HP) := fun L st h => match L, st with
  | [.inr (.inr (.inl (7, 0))), .inl _, .inl _, .inl _], [] => k h
  | _, _ => none
theorem pk_X7_use_49_ok {Wp : List AV → List AV → HP → Prop} {r : (Int32 × HP)} {k : HP → Option (Int32 × HP)} (hk : ∀ (w1 : Int32) (w2 : Int32) (w3 : Int32) (h : HP), k h = some r → Wp [.inr (.inr (.inl (7, 0))), .inl w1, .inl w2, .inl w3] [] h) : ∀ L st h, pk_X7_use_49 k L st h = some r → Wp L st h := by
  intro L st h q
  unfold pk_X7_use_49 at q
  split at q
  · exact hk _ _ _ _ q
  · cases q
noncomputable def g_X7_use_16  (h : HP) : Option (Int32 × HP) := (f_X7_finds ((-1000000001)) h).bind (fun q_1 => some (q_1.1, q_1.2))
def pk_X7_use_16 (k : HP → Option (Int32 × HP)) : List AV → List AV → HP → Option (Int32 × HP) := fun L st h => match L, st with
  | [.inr (.inr (.inl (7, 0))), .inl _, .inl _, .inr (.inr (.inr ()))], [] => k h
  | _, _ => none
theorem pk_X7_use_16_ok {Wp : List AV → List AV → HP → Prop} {r : (Int32 × HP)} {k : HP → Option (Int32 × HP)} (hk : ∀ (w1 : Int32) (w2 : Int32) (h : HP), k h = some r → Wp [.inr (.inr (.inl (7, 0))), .inl w1, .inl w2, .inr (.inr (.inr ()))] [] h) : ∀ L st h, pk_X7_use_16 k L st h = some r → Wp L st h := by
  intro L st h q
  unfold pk_X7_use_16 at q
  split at q
  · exact hk _ _ _ q
  · cases q
noncomputable def f_X7_use (a1 : Int32) (a2 : Int32) (h : HP) : Option (Int32 × HP) := (f_X7_isMember a1 h).bind (fun q_1 => if q_1.1 = (0 : Int32) then (g_X7_use_16 q_1.2) else ((f_X7_isOne a2 q_1.2).bind (fun q_2 => if q_2.1 = (0 : Int32) then (g_X7_use_16 q_2.2) else ((f_X7_whose a1 0 q_2.2).bind (fun q_3 => (f_X7_its a2 4 q_3.2).bind (fun q_4 => if q_4.1 = a1 then ((f_X7_opens a2 q_3.1 q_4.2).bind (fun q_5 => if q_5.1 = (0 : Int32) then (g_X7_use_49 q_5.2) else ((f_X7_leadsTo a2 q_3.1 q_5.2).bind (fun q_6 => (am_ix (52 + (2 * a1)) 64).bind (fun k_7 => (f_X7_wearsBy a2 (h_wI q_6.2 13 0 k_7 q_6.1)).bind (fun q_8 => (f_X7_whose a1 0 q_8).bind (fun q_9 => some (q_9.1, q_9.2)))))))) else (g_X7_use_49 q_4.2)))))))
noncomputable def fl_X7_use : List AV → HP → Option (Int32 × HP) := fun as h => match as with
  | [.inr (.inr (.inl (7, 0))), .inl a1, .inl a2] => f_X7_use a1 a2 h
  | _ => none
noncomputable def F_X7_use : AF := .inl fl_X7_use
set_option maxRecDepth 20000 in
theorem w_X7_use_49 {p : Program} {l : Launch} {e : Env} {R : Room} {s : State} {m : MethodId} {args : Array Value} {below : List Frame} {meth : Method} {c : Code} {cells slots : Nat} {G : AG} {Q : (Int32 × HP) → State → Prop} (CX : am_X p l e R s m args below meth c cells slots G 4 cX7_use RX7 am_tb P_X7_use am_rI Q) {r : (Int32 × HP)} : ∀ (w1 : Int32) (w2 : Int32) (w3 : Int32) (h : HP), g_X7_use_49 h = some r → am_W p l e R s m args below meth c cells slots G 4 (Q r) 49 [.inr (.inr (.inl (7, 0))), .inl w1, .inl w2, .inl w3] [] h := by
  intro w1 w2 w3 h q
  exact am_run_ok CX ok_X7_use (K := []) (am_K0 (Wp := am_W p l e R s m args below meth c cells slots G 4 (Q r))) 7 49 _ _ _ q
set_option maxRecDepth 20000 in
theorem w_X7_use_16 {p : Program} {l : Launch} {e : Env} {R : Room} {s : State} {m : MethodId} {args : Array Value} {below : List Frame} {meth : Method} {c : Code} {cells slots : Nat} {G : AG} {Q : (Int32 × HP) → State → Prop} (CX : am_X p l e R s m args below meth c cells slots G 4 cX7_use RX7 am_tb P_X7_use am_rI Q) {r : (Int32 × HP)} : ∀ (w1 : Int32) (w2 : Int32) (h : HP), g_X7_use_16 h = some r → am_W p l e R s m args below meth c cells slots G 4 (Q r) 16 [.inr (.inr (.inl (7, 0))), .inl w1, .inl w2, .inr (.inr (.inr ()))] [] h := by
  intro w1 w2 h q
  exact am_run_ok CX ok_X7_use (K := []) (am_K0 (Wp := am_W p l e R s m args below meth c cells slots G 4 (Q r))) 7 16 _ _ _ q
set_option maxRecDepth 20000 in
theorem b_X7_use (l : Launch) (G : AG) : am_B l G 4 cX7_use RX7 am_tb P_X7_use am_rI fl_X7_use := by
  intro p e R s m args below meth c cells slots Q CX as h r q
  unfold fl_X7_use at q
  split at q
  · exact am_run_ok CX ok_X7_use (K := [(16, pk_X7_use_16 (g_X7_use_16)), (49, pk_X7_use_49 (g_X7_use_49))]) (am_K1 (Wp := am_W p l e R s m args below meth c cells slots G 4 (Q r)) (pk_X7_use_16_ok (Wp := am_W p l e R s m args below meth c cells slots G 4 (Q r) 16) (w_X7_use_16 CX)) (am_K1 (Wp := am_W p l e R s m args below meth c cells slots G 4 (Q r)) (pk_X7_use_49_ok (Wp := am_W p l e R s m args below meth c cells slots G 4 (Q r) 49) (w_X7_use_49 CX)) am_K0)) 47 0 _ _ _ q
  · cases q
theorem s_X7_use : ∀ as h x, fl_X7_use as h = some x → (∀ k, (some 7 : Option Nat) = some k → ∃ (j : Nat) (as' : List AV), as = .inr (.inr (.inl (k, j))) :: as') ∧ (am_l0 as).length ≤ 4 := by
  intro as h x q
  unfold fl_X7_use at q
  split at q
  · exact ⟨fun k e => by cases e; exact ⟨_, _, rfl⟩, Nat.le_of_ble_eq_true rfl⟩
  · cases q
theorem M_X7_use (l : Launch) (G : AG) : am_M l G yX7_use cX7_use 4 (some .int) 5 112 (some 7) F_X7_use := am_M_of (f := fl_X7_use) (toR := fun x => (some (.inl x.1), x.2)) (P := P_X7_use) (Rr := am_rI) (own := RX7) (by decide) rfl (fun _ _ => rfl) s_X7_use am_wrI am_rkI pf_RX7 pk_RX7 ps_RX7 (List.forall_mem_cons.mpr ⟨cv_RX7_46 l G (by decide) (by decide), (List.forall_mem_cons.mpr ⟨cv_RX7_78 l G (by decide) (by decide), (List.forall_mem_cons.mpr ⟨cv_RX7_86 l G (by decide) (by decide), (List.forall_mem_cons.mpr ⟨cv_RX7_93 l G (by decide) (by decide), (List.forall_mem_cons.mpr ⟨cv_RX7_97 l G (by decide) (by decide), (List.forall_mem_cons.mpr ⟨cv_RX7_108 l G (by decide) (by decide), (List.forall_mem_cons.mpr ⟨cv_RX7_111 l G (by decide) (by decide), (List.forall_mem_cons.mpr ⟨cv_RX7_131 l G (by decide) (by decide), (fun _ q => by cases q)⟩)⟩)⟩)⟩)⟩)⟩)⟩)⟩) (fun _ q => by cases q) (fun _ q => by cases q) (b_X7_use l G)
def C_X7_oneDay : List AC := [(0, .iconst 0, 1, []), (1, .istore_n 1, 2, []), (2, .iload_n 1, 3, []), (3, .aload_n 0, 4, []), (4, .getfield 7, 7, []), (7, .iconst 2, 8, []), (8, .iaload, 9, []), (9, .if_icmp .ge 79, 12, [88]), (12, .aload_n 0, 13, []), (13, .iload_n 1, 14, []), (14, .iconst 5, 15, []), (15, .aload_n 0, 16, []), (16, .iload_n 1, 17, []), (17, .iconst 5, 18, []), (18, .invokevirtual 46, 21, []), (21, .aload_n 0, 22, []), (22, .iload_n 1, 23, []), (23, .iconst 4, 24, []), (24, .invokevirtual 46, 27, []), (27, .ifCond .lt 7, 30, [34]), (30, .iconst 1, 31, []), (31, .goto 4, 34, [35]), (34, .iconst 0, 35, []), (35, .iadd, 36, []), (36, .invokevirtual 68, 39, []), (39, .aload_n 0, 40, []), (40, .iload_n 1, 41, []), (41, .invokevirtual 50, 44, []), (44, .ifCond .eq 38, 47, [82]), (47, .bipush 52, 49, []), (49, .iconst 2, 50, []), (50, .aload_n 0, 51, []), (51, .iload_n 1, 52, []), (52, .iconst 4, 53, []), (53, .invokevirtual 46, 56, []), (56, .imul, 57, []), (57, .iadd, 58, []), (58, .iconst 1, 59, []), (59, .iadd, 60, []), (60, .istore_n 2, 61, []), (61, .aload_n 0, 62, []), (62, .getfield 7, 65, []), (65, .iload_n 2, 66, []), (66, .aload_n 0, 67, []), (67, .getfield 7, 70, []), (70, .iload_n 2, 71, []), (71, .iaload, 72, []), (72, .iconst 1, 73, []), (73, .iadd, 74, []), (74, .iconst 0, 75, []), (75, .sipush 9999, 78, []), (78, .invokestatic 64, 81, []), (81, .iastore, 82, []), (82, .iinc 1 1, 85, []), (85, .goto (-83), 88, [2]), (88, .aload_n 0, 89, []), (89, .getfield 7, 92, []), (92, .iconst 0, 93, []), (93, .dup2, 94, []), (94, .iaload, 95, []), (95, .iconst 1, 96, []), (96, .iadd, 97, []), (97, .iastore, 98, []), (98, .return_, 99, [])]
theorem ok_X7_oneDay : ∀ x ∈ C_X7_oneDay, am_ok cX7_oneDay 3 x = true := by decide +kernel
noncomputable def P_X7_oneDay : AP := (PF_RX7, PK_RX7, PS_RX7, [(46, 3, F_X7_its), (50, 2, F_X7_isLate), (68, 4, F_X7_puts)], [(64, 3, F_X7_held)], [])
noncomputable def g_X7_oneDay_35 (k2 : Int32 → HP → Option HP) (a1 : Int32) (a2 : Int32) (a3 : Int32) (a4 : Int32) (a5 : Int32) (h : HP) : Option HP := (f_X7_puts a2 a3 (a4 + a5) h).bind (fun q_1 => (f_X7_isLate a1 q_1).bind (fun q_2 => if q_2.1 = (0 : Int32) then (k2 (a1 + 1) q_2.2) else ((f_X7_its a1 4 q_2.2).bind (fun q_3 => (am_ix ((52 + (2 * q_3.1)) + 1) 64).bind (fun k_4 => (f_X7_held ((h_rI q_3.2 13 0 k_4) + 1) 0 9999 q_3.2).bind (fun q_5 => (am_ix ((52 + (2 * q_3.1)) + 1) 64).bind (fun k_6 => k2 (a1 + 1) (h_wI q_5.2 13 0 k_6 q_5.1))))))))
def pk_X7_oneDay_35 (k : Int32 → Int32 → Int32 → Int32 → Int32 → HP → Option HP) : List AV → List AV → HP → Option HP := fun L st h => match L, st with
  | [.inr (.inr (.inl (7, 0))), .inl a1, _], [.inl a5, .inl a4, .inl a3, .inl a2, .inr (.inr (.inl (7, 0)))] => k a1 a2 a3 a4 a5 h
  | _, _ => none
theorem pk_X7_oneDay_35_ok {Wp : List AV → List AV → HP → Prop} {r : HP} {k : Int32 → Int32 → Int32 → Int32 → Int32 → HP → Option HP} (hk : ∀ (a1 : Int32) (a2 : Int32) (a3 : Int32) (a4 : Int32) (a5 : Int32) (w1 : AV) (h : HP), k a1 a2 a3 a4 a5 h = some r → Wp [.inr (.inr (.inl (7, 0))), .inl a1, w1] [.inl a5, .inl a4, .inl a3, .inl a2, .inr (.inr (.inl (7, 0)))] h) : ∀ L st h, pk_X7_oneDay_35 k L st h = some r → Wp L st h := by
  intro L st h q
  unfold pk_X7_oneDay_35 at q
  split at q
  · exact hk _ _ _ _ _ _ _ q
  · cases q
noncomputable def g_X7_oneDay_2  : Nat → Int32 → HP → Option HP
  | 0, _, _ => none
  | n + 1, a1, h => (am_ix (2 : Int32) 64).bind (fun k_1 => if h_rI h 13 0 k_1 ≤ a1 then ((am_ix (0 : Int32) 64).bind (fun k_2 => (am_ix (0 : Int32) 64).bind (fun k_3 => some (h_wI h 13 0 k_3 ((h_rI h 13 0 k_2) + 1))))) else ((f_X7_its a1 5 h).bind (fun q_4 => (f_X7_its a1 4 q_4.2).bind (fun q_5 => if q_5.1 < (0 : Int32) then (g_X7_oneDay_35 (g_X7_oneDay_2 n) a1 a1 5 q_4.1 0 q_5.2) else (g_X7_oneDay_35 (g_X7_oneDay_2 n) a1 a1 5 q_4.1 1 q_5.2)))))
def pk_X7_oneDay_2 (k : Int32 → HP → Option HP) : List AV → List AV → HP → Option HP := fun L st h => match L, st with
  | [.inr (.inr (.inl (7, 0))), .inl a1, _], [] => k a1 h
  | _, _ => none
theorem pk_X7_oneDay_2_ok {Wp : List AV → List AV → HP → Prop} {r : HP} {k : Int32 → HP → Option HP} (hk : ∀ (a1 : Int32) (w1 : AV) (h : HP), k a1 h = some r → Wp [.inr (.inr (.inl (7, 0))), .inl a1, w1] [] h) : ∀ L st h, pk_X7_oneDay_2 k L st h = some r → Wp L st h := by
  intro L st h q
  unfold pk_X7_oneDay_2 at q
  split at q
  · exact hk _ _ _ q
  · cases q
noncomputable def f_X7_oneDay  (h : HP) : Option HP := g_X7_oneDay_2 am_fu 0 h
noncomputable def fl_X7_oneDay : List AV → HP → Option HP := fun as h => match as with
  | [.inr (.inr (.inl (7, 0)))] => f_X7_oneDay h
  | _ => none
noncomputable def F_X7_oneDay : AF := .inr (.inl fl_X7_oneDay)
set_option maxRecDepth 20000 in
theorem w_X7_oneDay_35 {p : Program} {l : Launch} {e : Env} {R : Room} {s : State} {m : MethodId} {args : Array Value} {below : List Frame} {meth : Method} {c : Code} {cells slots : Nat} {G : AG} {Q : HP → State → Prop} (CX : am_X p l e R s m args below meth c cells slots G 3 cX7_oneDay RX7 am_tb P_X7_oneDay am_rV Q) {r : HP} {k2 : Int32 → HP → Option HP} (hk2 : ∀ (a1 : Int32) (w1 : AV) (h : HP), k2 a1 h = some r → am_W p l e R s m args below meth c cells slots G 3 (Q r) 2 [.inr (.inr (.inl (7, 0))), .inl a1, w1] [] h) : ∀ (a1 : Int32) (a2 : Int32) (a3 : Int32) (a4 : Int32) (a5 : Int32) (w1 : AV) (h : HP), g_X7_oneDay_35 k2 a1 a2 a3 a4 a5 h = some r → am_W p l e R s m args below meth c cells slots G 3 (Q r) 35 [.inr (.inr (.inl (7, 0))), .inl a1, w1] [.inl a5, .inl a4, .inl a3, .inl a2, .inr (.inr (.inl (7, 0)))] h := by
  intro a1 a2 a3 a4 a5 w1 h q
  exact am_run_ok CX ok_X7_oneDay (K := [(2, pk_X7_oneDay_2 (k2))]) (am_K1 (Wp := am_W p l e R s m args below meth c cells slots G 3 (Q r)) (pk_X7_oneDay_2_ok (Wp := am_W p l e R s m args below meth c cells slots G 3 (Q r) 2) hk2) am_K0) 35 35 _ _ _ q
set_option maxRecDepth 20000 in
theorem w_X7_oneDay_2 {p : Program} {l : Launch} {e : Env} {R : Room} {s : State} {m : MethodId} {args : Array Value} {below : List Frame} {meth : Method} {c : Code} {cells slots : Nat} {G : AG} {Q : HP → State → Prop} (CX : am_X p l e R s m args below meth c cells slots G 3 cX7_oneDay RX7 am_tb P_X7_oneDay am_rV Q) {r : HP} : ∀ (n : Nat) (a1 : Int32) (w1 : AV) (h : HP), g_X7_oneDay_2 n a1 h = some r → am_W p l e R s m args below meth c cells slots G 3 (Q r) 2 [.inr (.inr (.inl (7, 0))), .inl a1, w1] [] h := by
  intro n
  induction n with
  | zero =>
    intro a1 w1 h q
    have q9 : (none : Option HP) = some r := q
    cases q9
  | succ n ih =>
    intro a1 w1 h q
    exact am_run_ok CX ok_X7_oneDay (K := [(35, pk_X7_oneDay_35 (g_X7_oneDay_35 (g_X7_oneDay_2 n)))]) (am_K1 (Wp := am_W p l e R s m args below meth c cells slots G 3 (Q r)) (pk_X7_oneDay_35_ok (Wp := am_W p l e R s m args below meth c cells slots G 3 (Q r) 35) (w_X7_oneDay_35 CX ih)) am_K0) 23 2 _ _ _ q
set_option maxRecDepth 20000 in
theorem b_X7_oneDay (l : Launch) (G : AG) : am_B l G 3 cX7_oneDay RX7 am_tb P_X7_oneDay am_rV fl_X7_oneDay := by
  intro p e R s m args below meth c cells slots Q CX as h r q
  unfold fl_X7_oneDay at q
  split at q
  · exact am_run_ok CX ok_X7_oneDay (K := [(2, pk_X7_oneDay_2 (g_X7_oneDay_2 am_fu))]) (am_K1 (Wp := am_W p l e R s m args below meth c cells slots G 3 (Q r)) (pk_X7_oneDay_2_ok (Wp := am_W p l e R s m args below meth c cells slots G 3 (Q r) 2) (w_X7_oneDay_2 CX am_fu)) am_K0) 5 0 _ _ _ q
  · cases q
theorem s_X7_oneDay : ∀ as h x, fl_X7_oneDay as h = some x → (∀ k, (some 7 : Option Nat) = some k → ∃ (j : Nat) (as' : List AV), as = .inr (.inr (.inl (k, j))) :: as') ∧ (am_l0 as).length ≤ 3 := by
  intro as h x q
  unfold fl_X7_oneDay at q
  split at q
  · exact ⟨fun k e => by cases e; exact ⟨_, _, rfl⟩, Nat.le_of_ble_eq_true rfl⟩
  · cases q
theorem M_X7_oneDay (l : Launch) (G : AG) : am_M l G yX7_oneDay cX7_oneDay 3 none 2 43 (some 7) F_X7_oneDay := am_M_of (f := fl_X7_oneDay) (toR := fun x => (none, x)) (P := P_X7_oneDay) (Rr := am_rV) (own := RX7) (by decide) rfl (fun _ _ => rfl) s_X7_oneDay am_wrV am_rkV pf_RX7 pk_RX7 ps_RX7 (List.forall_mem_cons.mpr ⟨cv_RX7_46 l G (by decide) (by decide), (List.forall_mem_cons.mpr ⟨cv_RX7_50 l G (by decide) (by decide), (List.forall_mem_cons.mpr ⟨cv_RX7_68 l G (by decide) (by decide), (fun _ q => by cases q)⟩)⟩)⟩) (List.forall_mem_cons.mpr ⟨cs_RX7_64 l G (by decide) (by decide), (fun _ q => by cases q)⟩) (fun _ q => by cases q) (b_X7_oneDay l G)
theorem cv_RX7_134 (l : Launch) (G : AG) {fr lo : Nat} (h1 : 2 + 1 ≤ fr) (h2 : 8 + (3 + 11) + 43 ≤ lo) : am_cvOK l G RX7 fr lo (134, 1, F_X7_oneDay) := ⟨yX7_oneDay, cX7_oneDay, 3, none, 2, 43, 7, RX7, M_X7_oneDay l G, ⟨(am_tb_mem (wd_20 _ (List.mem_of_getElem? (i := 37) rfl))), (am_tb_mem (wd_20 _ (List.mem_of_getElem? (i := 38) rfl))), (am_tb_mem (wd_0 _ (List.mem_of_getElem? (i := 34) rfl))), (am_tb_mem (wd_1 _ (List.mem_of_getElem? (i := 26) rfl))), (am_tb_mem (wd_20 _ (List.mem_of_getElem? (i := 39) rfl)))⟩, ⟨rfl, by decide, by decide, by decide +kernel⟩, Or.inl ⟨by decide, rfl⟩, h1, h2⟩
def C_X7_passes : List AC := [(0, .iconst 0, 1, []), (1, .istore_n 2, 2, []), (2, .iload_n 2, 3, []), (3, .iload_n 1, 4, []), (4, .if_icmp .ge 13, 7, [17]), (7, .aload_n 0, 8, []), (8, .invokevirtual 134, 11, []), (11, .iinc 2 1, 14, []), (14, .goto (-12), 17, [2]), (17, .return_, 18, [])]
theorem ok_X7_passes : ∀ x ∈ C_X7_passes, am_ok cX7_passes 3 x = true := by decide +kernel
noncomputable def P_X7_passes : AP := (PF_RX7, PK_RX7, PS_RX7, [(134, 1, F_X7_oneDay)], [], [])
noncomputable def g_X7_passes_2  : Nat → Int32 → Int32 → HP → Option HP
  | 0, _, _, _ => none
  | n + 1, a1, a2, h => if a1 ≤ a2 then (some h) else ((f_X7_oneDay h).bind (fun q_1 => g_X7_passes_2 n a1 (a2 + 1) q_1))
def pk_X7_passes_2 (k : Int32 → Int32 → HP → Option HP) : List AV → List AV → HP → Option HP := fun L st h => match L, st with
  | [.inr (.inr (.inl (7, 0))), .inl a1, .inl a2], [] => k a1 a2 h
  | _, _ => none
theorem pk_X7_passes_2_ok {Wp : List AV → List AV → HP → Prop} {r : HP} {k : Int32 → Int32 → HP → Option HP} (hk : ∀ (a1 : Int32) (a2 : Int32) (h : HP), k a1 a2 h = some r → Wp [.inr (.inr (.inl (7, 0))), .inl a1, .inl a2] [] h) : ∀ L st h, pk_X7_passes_2 k L st h = some r → Wp L st h := by
  intro L st h q
  unfold pk_X7_passes_2 at q
  split at q
  · exact hk _ _ _ q
  · cases q
noncomputable def f_X7_passes (a1 : Int32) (h : HP) : Option HP := g_X7_passes_2 am_fu a1 0 h
noncomputable def fl_X7_passes : List AV → HP → Option HP := fun as h => match as with
  | [.inr (.inr (.inl (7, 0))), .inl a1] => f_X7_passes a1 h
  | _ => none
noncomputable def F_X7_passes : AF := .inr (.inl fl_X7_passes)
set_option maxRecDepth 20000 in
theorem w_X7_passes_2 {p : Program} {l : Launch} {e : Env} {R : Room} {s : State} {m : MethodId} {args : Array Value} {below : List Frame} {meth : Method} {c : Code} {cells slots : Nat} {G : AG} {Q : HP → State → Prop} (CX : am_X p l e R s m args below meth c cells slots G 3 cX7_passes RX7 am_tb P_X7_passes am_rV Q) {r : HP} : ∀ (n : Nat) (a1 : Int32) (a2 : Int32) (h : HP), g_X7_passes_2 n a1 a2 h = some r → am_W p l e R s m args below meth c cells slots G 3 (Q r) 2 [.inr (.inr (.inl (7, 0))), .inl a1, .inl a2] [] h := by
  intro n
  induction n with
  | zero =>
    intro a1 a2 h q
    have q9 : (none : Option HP) = some r := q
    cases q9
  | succ n ih =>
    intro a1 a2 h q
    exact am_run_ok CX ok_X7_passes (K := [(2, pk_X7_passes_2 (g_X7_passes_2 n))]) (am_K1 (Wp := am_W p l e R s m args below meth c cells slots G 3 (Q r)) (pk_X7_passes_2_ok (Wp := am_W p l e R s m args below meth c cells slots G 3 (Q r) 2) ih) am_K0) 10 2 _ _ _ q
set_option maxRecDepth 20000 in
theorem b_X7_passes (l : Launch) (G : AG) : am_B l G 3 cX7_passes RX7 am_tb P_X7_passes am_rV fl_X7_passes := by
  intro p e R s m args below meth c cells slots Q CX as h r q
  unfold fl_X7_passes at q
  split at q
  · exact am_run_ok CX ok_X7_passes (K := [(2, pk_X7_passes_2 (g_X7_passes_2 am_fu))]) (am_K1 (Wp := am_W p l e R s m args below meth c cells slots G 3 (Q r)) (pk_X7_passes_2_ok (Wp := am_W p l e R s m args below meth c cells slots G 3 (Q r) 2) (w_X7_passes_2 CX am_fu)) am_K0) 5 0 _ _ _ q
  · cases q
theorem s_X7_passes : ∀ as h x, fl_X7_passes as h = some x → (∀ k, (some 7 : Option Nat) = some k → ∃ (j : Nat) (as' : List AV), as = .inr (.inr (.inl (k, j))) :: as') ∧ (am_l0 as).length ≤ 3 := by
  intro as h x q
  unfold fl_X7_passes at q
  split at q
  · exact ⟨fun k e => by cases e; exact ⟨_, _, rfl⟩, Nat.le_of_ble_eq_true rfl⟩
  · cases q
theorem M_X7_passes (l : Launch) (G : AG) : am_M l G yX7_passes cX7_passes 3 none 3 65 (some 7) F_X7_passes := am_M_of (f := fl_X7_passes) (toR := fun x => (none, x)) (P := P_X7_passes) (Rr := am_rV) (own := RX7) (by decide) rfl (fun _ _ => rfl) s_X7_passes am_wrV am_rkV pf_RX7 pk_RX7 ps_RX7 (List.forall_mem_cons.mpr ⟨cv_RX7_134 l G (by decide) (by decide), (fun _ q => by cases q)⟩) (fun _ q => by cases q) (fun _ q => by cases q) (b_X7_passes l G)
def C_X7_finesAll : List AC := [(0, .iconst 0, 1, []), (1, .istore_n 1, 2, []), (2, .iconst 0, 3, []), (3, .istore_n 2, 4, []), (4, .iload_n 2, 5, []), (5, .aload_n 0, 6, []), (6, .getfield 7, 9, []), (9, .iconst 3, 10, []), (10, .iaload, 11, []), (11, .if_icmp .ge 18, 14, [29]), (14, .iload_n 1, 15, []), (15, .aload_n 0, 16, []), (16, .iload_n 2, 17, []), (17, .iconst 1, 18, []), (18, .invokevirtual 108, 21, []), (21, .iadd, 22, []), (22, .istore_n 1, 23, []), (23, .iinc 2 1, 26, []), (26, .goto (-22), 29, [4]), (29, .iload_n 1, 30, []), (30, .ireturn, 31, [])]
theorem ok_X7_finesAll : ∀ x ∈ C_X7_finesAll, am_ok cX7_finesAll 3 x = true := by decide +kernel
noncomputable def P_X7_finesAll : AP := (PF_RX7, PK_RX7, PS_RX7, [(108, 3, F_X7_whose)], [], [])
noncomputable def g_X7_finesAll_4  : Nat → Int32 → Int32 → HP → Option (Int32 × HP)
  | 0, _, _, _ => none
  | n + 1, a1, a2, h => (am_ix (3 : Int32) 64).bind (fun k_1 => if h_rI h 13 0 k_1 ≤ a2 then (some (a1, h)) else ((f_X7_whose a2 1 h).bind (fun q_2 => g_X7_finesAll_4 n (a1 + q_2.1) (a2 + 1) q_2.2)))
def pk_X7_finesAll_4 (k : Int32 → Int32 → HP → Option (Int32 × HP)) : List AV → List AV → HP → Option (Int32 × HP) := fun L st h => match L, st with
  | [.inr (.inr (.inl (7, 0))), .inl a1, .inl a2], [] => k a1 a2 h
  | _, _ => none
theorem pk_X7_finesAll_4_ok {Wp : List AV → List AV → HP → Prop} {r : (Int32 × HP)} {k : Int32 → Int32 → HP → Option (Int32 × HP)} (hk : ∀ (a1 : Int32) (a2 : Int32) (h : HP), k a1 a2 h = some r → Wp [.inr (.inr (.inl (7, 0))), .inl a1, .inl a2] [] h) : ∀ L st h, pk_X7_finesAll_4 k L st h = some r → Wp L st h := by
  intro L st h q
  unfold pk_X7_finesAll_4 at q
  split at q
  · exact hk _ _ _ q
  · cases q
noncomputable def f_X7_finesAll  (h : HP) : Option (Int32 × HP) := g_X7_finesAll_4 am_fu 0 0 h
noncomputable def fl_X7_finesAll : List AV → HP → Option (Int32 × HP) := fun as h => match as with
  | [.inr (.inr (.inl (7, 0)))] => f_X7_finesAll h
  | _ => none
noncomputable def F_X7_finesAll : AF := .inl fl_X7_finesAll
set_option maxRecDepth 20000 in
theorem w_X7_finesAll_4 {p : Program} {l : Launch} {e : Env} {R : Room} {s : State} {m : MethodId} {args : Array Value} {below : List Frame} {meth : Method} {c : Code} {cells slots : Nat} {G : AG} {Q : (Int32 × HP) → State → Prop} (CX : am_X p l e R s m args below meth c cells slots G 3 cX7_finesAll RX7 am_tb P_X7_finesAll am_rI Q) {r : (Int32 × HP)} : ∀ (n : Nat) (a1 : Int32) (a2 : Int32) (h : HP), g_X7_finesAll_4 n a1 a2 h = some r → am_W p l e R s m args below meth c cells slots G 3 (Q r) 4 [.inr (.inr (.inl (7, 0))), .inl a1, .inl a2] [] h := by
  intro n
  induction n with
  | zero =>
    intro a1 a2 h q
    have q9 : (none : Option (Int32 × HP)) = some r := q
    cases q9
  | succ n ih =>
    intro a1 a2 h q
    exact am_run_ok CX ok_X7_finesAll (K := [(4, pk_X7_finesAll_4 (g_X7_finesAll_4 n))]) (am_K1 (Wp := am_W p l e R s m args below meth c cells slots G 3 (Q r)) (pk_X7_finesAll_4_ok (Wp := am_W p l e R s m args below meth c cells slots G 3 (Q r) 4) ih) am_K0) 18 4 _ _ _ q
set_option maxRecDepth 20000 in
theorem b_X7_finesAll (l : Launch) (G : AG) : am_B l G 3 cX7_finesAll RX7 am_tb P_X7_finesAll am_rI fl_X7_finesAll := by
  intro p e R s m args below meth c cells slots Q CX as h r q
  unfold fl_X7_finesAll at q
  split at q
  · exact am_run_ok CX ok_X7_finesAll (K := [(4, pk_X7_finesAll_4 (g_X7_finesAll_4 am_fu))]) (am_K1 (Wp := am_W p l e R s m args below meth c cells slots G 3 (Q r)) (pk_X7_finesAll_4_ok (Wp := am_W p l e R s m args below meth c cells slots G 3 (Q r) 4) (w_X7_finesAll_4 CX am_fu)) am_K0) 7 0 _ _ _ q
  · cases q
theorem s_X7_finesAll : ∀ as h x, fl_X7_finesAll as h = some x → (∀ k, (some 7 : Option Nat) = some k → ∃ (j : Nat) (as' : List AV), as = .inr (.inr (.inl (k, j))) :: as') ∧ (am_l0 as).length ≤ 3 := by
  intro as h x q
  unfold fl_X7_finesAll at q
  split at q
  · exact ⟨fun k e => by cases e; exact ⟨_, _, rfl⟩, Nat.le_of_ble_eq_true rfl⟩
  · cases q
theorem M_X7_finesAll (l : Launch) (G : AG) : am_M l G yX7_finesAll cX7_finesAll 3 (some .int) 1 22 (some 7) F_X7_finesAll := am_M_of (f := fl_X7_finesAll) (toR := fun x => (some (.inl x.1), x.2)) (P := P_X7_finesAll) (Rr := am_rI) (own := RX7) (by decide) rfl (fun _ _ => rfl) s_X7_finesAll am_wrI am_rkI pf_RX7 pk_RX7 ps_RX7 (List.forall_mem_cons.mpr ⟨cv_RX7_108 l G (by decide) (by decide), (fun _ q => by cases q)⟩) (fun _ q => by cases q) (fun _ q => by cases q) (b_X7_finesAll l G)
theorem cv_RX7_137 (l : Launch) (G : AG) {fr lo : Nat} (h1 : 3 + 1 ≤ fr) (h2 : 8 + (3 + 11) + 65 ≤ lo) : am_cvOK l G RX7 fr lo (137, 2, F_X7_passes) := ⟨yX7_passes, cX7_passes, 3, none, 3, 65, 7, RX7, M_X7_passes l G, ⟨(am_tb_mem (wd_20 _ (List.mem_of_getElem? (i := 34) rfl))), (am_tb_mem (wd_20 _ (List.mem_of_getElem? (i := 35) rfl))), (am_tb_mem (wd_0 _ (List.mem_of_getElem? (i := 33) rfl))), (am_tb_mem (wd_1 _ (List.mem_of_getElem? (i := 26) rfl))), (am_tb_mem (wd_20 _ (List.mem_of_getElem? (i := 36) rfl)))⟩, ⟨rfl, by decide, by decide, by decide +kernel⟩, Or.inl ⟨by decide, rfl⟩, h1, h2⟩
theorem cv_RX7_140 (l : Launch) (G : AG) {fr lo : Nat} (h1 : 1 + 1 ≤ fr) (h2 : 8 + (3 + 11) + 22 ≤ lo) : am_cvOK l G RX7 fr lo (140, 1, F_X7_finesAll) := ⟨yX7_finesAll, cX7_finesAll, 3, (some .int), 1, 22, 7, RX7, M_X7_finesAll l G, ⟨(am_tb_mem (wd_21 _ (List.mem_of_getElem? (i := 0) rfl))), (am_tb_mem (wd_21 _ (List.mem_of_getElem? (i := 1) rfl))), (am_tb_mem (wd_0 _ (List.mem_of_getElem? (i := 35) rfl))), (am_tb_mem (wd_1 _ (List.mem_of_getElem? (i := 26) rfl))), (am_tb_mem (wd_21 _ (List.mem_of_getElem? (i := 2) rfl)))⟩, ⟨rfl, by decide, by decide, by decide +kernel⟩, Or.inl ⟨by decide, rfl⟩, h1, h2⟩
def C_X7_days : List AC := [(0, .iload_n 1, 1, []), (1, .iconst 1, 2, []), (2, .bipush 60, 4, []), (4, .invokestatic 42, 7, []), (7, .ifCond .ne 10, 10, [17]), (10, .aload_n 0, 11, []), (11, .ldc 41, 13, []), (13, .invokevirtual 78, 16, []), (16, .ireturn, 17, []), (17, .aload_n 0, 18, []), (18, .getfield 7, 21, []), (21, .iconst 0, 22, []), (22, .iaload, 23, []), (23, .iload_n 1, 24, []), (24, .iadd, 25, []), (25, .sipush 9999, 28, []), (28, .if_icmp .le 10, 31, [38]), (31, .aload_n 0, 32, []), (32, .ldc 126, 34, []), (34, .invokevirtual 78, 37, []), (37, .ireturn, 38, []), (38, .aload_n 0, 39, []), (39, .iload_n 1, 40, []), (40, .invokevirtual 137, 43, []), (43, .aload_n 0, 44, []), (44, .invokevirtual 140, 47, []), (47, .ireturn, 48, [])]
theorem ok_X7_days : ∀ x ∈ C_X7_days, am_ok cX7_days 2 x = true := by decide +kernel
noncomputable def P_X7_days : AP := (PF_RX7, PK_RX7, PS_RX7, [(78, 2, F_X7_finds), (137, 2, F_X7_passes), (140, 1, F_X7_finesAll)], [(42, 3, F_X7_in)], [])
noncomputable def f_X7_days (a1 : Int32) (h : HP) : Option (Int32 × HP) := (f_X7_in a1 1 60 h).bind (fun q_1 => if q_1.1 = (0 : Int32) then ((f_X7_finds ((-1000000001)) q_1.2).bind (fun q_6 => some (q_6.1, q_6.2))) else ((am_ix (0 : Int32) 64).bind (fun k_2 => if (h_rI q_1.2 13 0 k_2) + a1 ≤ (9999 : Int32) then ((f_X7_passes a1 q_1.2).bind (fun q_3 => (f_X7_finesAll q_3).bind (fun q_4 => some (q_4.1, q_4.2)))) else ((f_X7_finds ((-1000000005)) q_1.2).bind (fun q_5 => some (q_5.1, q_5.2))))))
noncomputable def fl_X7_days : List AV → HP → Option (Int32 × HP) := fun as h => match as with
  | [.inr (.inr (.inl (7, 0))), .inl a1] => f_X7_days a1 h
  | _ => none
noncomputable def F_X7_days : AF := .inl fl_X7_days
set_option maxRecDepth 20000 in
theorem b_X7_days (l : Launch) (G : AG) : am_B l G 2 cX7_days RX7 am_tb P_X7_days am_rI fl_X7_days := by
  intro p e R s m args below meth c cells slots Q CX as h r q
  unfold fl_X7_days at q
  split at q
  · exact am_run_ok CX ok_X7_days (K := []) (am_K0 (Wp := am_W p l e R s m args below meth c cells slots G 2 (Q r))) 22 0 _ _ _ q
  · cases q
theorem s_X7_days : ∀ as h x, fl_X7_days as h = some x → (∀ k, (some 7 : Option Nat) = some k → ∃ (j : Nat) (as' : List AV), as = .inr (.inr (.inl (k, j))) :: as') ∧ (am_l0 as).length ≤ 2 := by
  intro as h x q
  unfold fl_X7_days at q
  split at q
  · exact ⟨fun k e => by cases e; exact ⟨_, _, rfl⟩, Nat.le_of_ble_eq_true rfl⟩
  · cases q
theorem M_X7_days (l : Launch) (G : AG) : am_M l G yX7_days cX7_days 2 (some .int) 4 87 (some 7) F_X7_days := am_M_of (f := fl_X7_days) (toR := fun x => (some (.inl x.1), x.2)) (P := P_X7_days) (Rr := am_rI) (own := RX7) (by decide) rfl (fun _ _ => rfl) s_X7_days am_wrI am_rkI pf_RX7 pk_RX7 ps_RX7 (List.forall_mem_cons.mpr ⟨cv_RX7_78 l G (by decide) (by decide), (List.forall_mem_cons.mpr ⟨cv_RX7_137 l G (by decide) (by decide), (List.forall_mem_cons.mpr ⟨cv_RX7_140 l G (by decide) (by decide), (fun _ q => by cases q)⟩)⟩)⟩) (List.forall_mem_cons.mpr ⟨cs_RX7_42 l G (by decide) (by decide), (fun _ q => by cases q)⟩) (fun _ q => by cases q) (b_X7_days l G)
def C_X7_lentSet : List AC := [(0, .iconst 0, 1, []), (1, .istore_n 1, 2, []), (2, .iconst 0, 3, []), (3, .istore_n 2, 4, []), (4, .iload_n 2, 5, []), (5, .aload_n 0, 6, []), (6, .getfield 7, 9, []), (9, .iconst 2, 10, []), (10, .iaload, 11, []), (11, .if_icmp .ge 28, 14, [39]), (14, .iload_n 1, 15, []), (15, .aload_n 0, 16, []), (16, .iload_n 2, 17, []), (17, .iconst 4, 18, []), (18, .invokevirtual 46, 21, []), (21, .ifCond .lt 9, 24, [30]), (24, .iconst 1, 25, []), (25, .iload_n 2, 26, []), (26, .ishl, 27, []), (27, .goto 4, 30, [31]), (30, .iconst 0, 31, []), (31, .ior, 32, []), (32, .istore_n 1, 33, []), (33, .iinc 2 1, 36, []), (36, .goto (-32), 39, [4]), (39, .iload_n 1, 40, []), (40, .ireturn, 41, [])]
theorem ok_X7_lentSet : ∀ x ∈ C_X7_lentSet, am_ok cX7_lentSet 3 x = true := by decide +kernel
noncomputable def P_X7_lentSet : AP := (PF_RX7, PK_RX7, PS_RX7, [(46, 3, F_X7_its)], [], [])
noncomputable def g_X7_lentSet_4  : Nat → Int32 → Int32 → HP → Option (Int32 × HP)
  | 0, _, _, _ => none
  | n + 1, a1, a2, h => (am_ix (2 : Int32) 64).bind (fun k_1 => if h_rI h 13 0 k_1 ≤ a2 then (some (a1, h)) else ((f_X7_its a2 4 h).bind (fun q_2 => if q_2.1 < (0 : Int32) then (g_X7_lentSet_4 n (a1 ||| 0) (a2 + 1) q_2.2) else (g_X7_lentSet_4 n (a1 ||| (1 <<< (a2 &&& 31))) (a2 + 1) q_2.2))))
def pk_X7_lentSet_4 (k : Int32 → Int32 → HP → Option (Int32 × HP)) : List AV → List AV → HP → Option (Int32 × HP) := fun L st h => match L, st with
  | [.inr (.inr (.inl (7, 0))), .inl a1, .inl a2], [] => k a1 a2 h
  | _, _ => none
theorem pk_X7_lentSet_4_ok {Wp : List AV → List AV → HP → Prop} {r : (Int32 × HP)} {k : Int32 → Int32 → HP → Option (Int32 × HP)} (hk : ∀ (a1 : Int32) (a2 : Int32) (h : HP), k a1 a2 h = some r → Wp [.inr (.inr (.inl (7, 0))), .inl a1, .inl a2] [] h) : ∀ L st h, pk_X7_lentSet_4 k L st h = some r → Wp L st h := by
  intro L st h q
  unfold pk_X7_lentSet_4 at q
  split at q
  · exact hk _ _ _ q
  · cases q
noncomputable def f_X7_lentSet  (h : HP) : Option (Int32 × HP) := g_X7_lentSet_4 am_fu 0 0 h
noncomputable def fl_X7_lentSet : List AV → HP → Option (Int32 × HP) := fun as h => match as with
  | [.inr (.inr (.inl (7, 0)))] => f_X7_lentSet h
  | _ => none
noncomputable def F_X7_lentSet : AF := .inl fl_X7_lentSet
set_option maxRecDepth 20000 in
theorem w_X7_lentSet_4 {p : Program} {l : Launch} {e : Env} {R : Room} {s : State} {m : MethodId} {args : Array Value} {below : List Frame} {meth : Method} {c : Code} {cells slots : Nat} {G : AG} {Q : (Int32 × HP) → State → Prop} (CX : am_X p l e R s m args below meth c cells slots G 3 cX7_lentSet RX7 am_tb P_X7_lentSet am_rI Q) {r : (Int32 × HP)} : ∀ (n : Nat) (a1 : Int32) (a2 : Int32) (h : HP), g_X7_lentSet_4 n a1 a2 h = some r → am_W p l e R s m args below meth c cells slots G 3 (Q r) 4 [.inr (.inr (.inl (7, 0))), .inl a1, .inl a2] [] h := by
  intro n
  induction n with
  | zero =>
    intro a1 a2 h q
    have q9 : (none : Option (Int32 × HP)) = some r := q
    cases q9
  | succ n ih =>
    intro a1 a2 h q
    exact am_run_ok CX ok_X7_lentSet (K := [(4, pk_X7_lentSet_4 (g_X7_lentSet_4 n))]) (am_K1 (Wp := am_W p l e R s m args below meth c cells slots G 3 (Q r)) (pk_X7_lentSet_4_ok (Wp := am_W p l e R s m args below meth c cells slots G 3 (Q r) 4) ih) am_K0) 23 4 _ _ _ q
set_option maxRecDepth 20000 in
theorem b_X7_lentSet (l : Launch) (G : AG) : am_B l G 3 cX7_lentSet RX7 am_tb P_X7_lentSet am_rI fl_X7_lentSet := by
  intro p e R s m args below meth c cells slots Q CX as h r q
  unfold fl_X7_lentSet at q
  split at q
  · exact am_run_ok CX ok_X7_lentSet (K := [(4, pk_X7_lentSet_4 (g_X7_lentSet_4 am_fu))]) (am_K1 (Wp := am_W p l e R s m args below meth c cells slots G 3 (Q r)) (pk_X7_lentSet_4_ok (Wp := am_W p l e R s m args below meth c cells slots G 3 (Q r) 4) (w_X7_lentSet_4 CX am_fu)) am_K0) 7 0 _ _ _ q
  · cases q
theorem s_X7_lentSet : ∀ as h x, fl_X7_lentSet as h = some x → (∀ k, (some 7 : Option Nat) = some k → ∃ (j : Nat) (as' : List AV), as = .inr (.inr (.inl (k, j))) :: as') ∧ (am_l0 as).length ≤ 3 := by
  intro as h x q
  unfold fl_X7_lentSet at q
  split at q
  · exact ⟨fun k e => by cases e; exact ⟨_, _, rfl⟩, Nat.le_of_ble_eq_true rfl⟩
  · cases q
theorem M_X7_lentSet (l : Launch) (G : AG) : am_M l G yX7_lentSet cX7_lentSet 3 (some .int) 1 22 (some 7) F_X7_lentSet := am_M_of (f := fl_X7_lentSet) (toR := fun x => (some (.inl x.1), x.2)) (P := P_X7_lentSet) (Rr := am_rI) (own := RX7) (by decide) rfl (fun _ _ => rfl) s_X7_lentSet am_wrI am_rkI pf_RX7 pk_RX7 ps_RX7 (List.forall_mem_cons.mpr ⟨cv_RX7_46 l G (by decide) (by decide), (fun _ q => by cases q)⟩) (fun _ q => by cases q) (fun _ q => by cases q) (b_X7_lentSet l G)
def C_X7_lateSet : List AC := [(0, .iconst 0, 1, []), (1, .istore_n 1, 2, []), (2, .iconst 0, 3, []), (3, .istore_n 2, 4, []), (4, .iload_n 2, 5, []), (5, .aload_n 0, 6, []), (6, .getfield 7, 9, []), (9, .iconst 2, 10, []), (10, .iaload, 11, []), (11, .if_icmp .ge 27, 14, [38]), (14, .iload_n 1, 15, []), (15, .aload_n 0, 16, []), (16, .iload_n 2, 17, []), (17, .invokevirtual 50, 20, []), (20, .ifCond .eq 9, 23, [29]), (23, .iconst 1, 24, []), (24, .iload_n 2, 25, []), (25, .ishl, 26, []), (26, .goto 4, 29, [30]), (29, .iconst 0, 30, []), (30, .ior, 31, []), (31, .istore_n 1, 32, []), (32, .iinc 2 1, 35, []), (35, .goto (-31), 38, [4]), (38, .iload_n 1, 39, []), (39, .ireturn, 40, [])]
theorem ok_X7_lateSet : ∀ x ∈ C_X7_lateSet, am_ok cX7_lateSet 3 x = true := by decide +kernel
noncomputable def P_X7_lateSet : AP := (PF_RX7, PK_RX7, PS_RX7, [(50, 2, F_X7_isLate)], [], [])
noncomputable def g_X7_lateSet_4  : Nat → Int32 → Int32 → HP → Option (Int32 × HP)
  | 0, _, _, _ => none
  | n + 1, a1, a2, h => (am_ix (2 : Int32) 64).bind (fun k_1 => if h_rI h 13 0 k_1 ≤ a2 then (some (a1, h)) else ((f_X7_isLate a2 h).bind (fun q_2 => if q_2.1 = (0 : Int32) then (g_X7_lateSet_4 n (a1 ||| 0) (a2 + 1) q_2.2) else (g_X7_lateSet_4 n (a1 ||| (1 <<< (a2 &&& 31))) (a2 + 1) q_2.2))))
def pk_X7_lateSet_4 (k : Int32 → Int32 → HP → Option (Int32 × HP)) : List AV → List AV → HP → Option (Int32 × HP) := fun L st h => match L, st with
  | [.inr (.inr (.inl (7, 0))), .inl a1, .inl a2], [] => k a1 a2 h
  | _, _ => none
theorem pk_X7_lateSet_4_ok {Wp : List AV → List AV → HP → Prop} {r : (Int32 × HP)} {k : Int32 → Int32 → HP → Option (Int32 × HP)} (hk : ∀ (a1 : Int32) (a2 : Int32) (h : HP), k a1 a2 h = some r → Wp [.inr (.inr (.inl (7, 0))), .inl a1, .inl a2] [] h) : ∀ L st h, pk_X7_lateSet_4 k L st h = some r → Wp L st h := by
  intro L st h q
  unfold pk_X7_lateSet_4 at q
  split at q
  · exact hk _ _ _ q
  · cases q
noncomputable def f_X7_lateSet  (h : HP) : Option (Int32 × HP) := g_X7_lateSet_4 am_fu 0 0 h
noncomputable def fl_X7_lateSet : List AV → HP → Option (Int32 × HP) := fun as h => match as with
  | [.inr (.inr (.inl (7, 0)))] => f_X7_lateSet h
  | _ => none
noncomputable def F_X7_lateSet : AF := .inl fl_X7_lateSet
set_option maxRecDepth 20000 in
theorem w_X7_lateSet_4 {p : Program} {l : Launch} {e : Env} {R : Room} {s : State} {m : MethodId} {args : Array Value} {below : List Frame} {meth : Method} {c : Code} {cells slots : Nat} {G : AG} {Q : (Int32 × HP) → State → Prop} (CX : am_X p l e R s m args below meth c cells slots G 3 cX7_lateSet RX7 am_tb P_X7_lateSet am_rI Q) {r : (Int32 × HP)} : ∀ (n : Nat) (a1 : Int32) (a2 : Int32) (h : HP), g_X7_lateSet_4 n a1 a2 h = some r → am_W p l e R s m args below meth c cells slots G 3 (Q r) 4 [.inr (.inr (.inl (7, 0))), .inl a1, .inl a2] [] h := by
  intro n
  induction n with
  | zero =>
    intro a1 a2 h q
    have q9 : (none : Option (Int32 × HP)) = some r := q
    cases q9
  | succ n ih =>
    intro a1 a2 h q
    exact am_run_ok CX ok_X7_lateSet (K := [(4, pk_X7_lateSet_4 (g_X7_lateSet_4 n))]) (am_K1 (Wp := am_W p l e R s m args below meth c cells slots G 3 (Q r)) (pk_X7_lateSet_4_ok (Wp := am_W p l e R s m args below meth c cells slots G 3 (Q r) 4) ih) am_K0) 22 4 _ _ _ q
set_option maxRecDepth 20000 in
theorem b_X7_lateSet (l : Launch) (G : AG) : am_B l G 3 cX7_lateSet RX7 am_tb P_X7_lateSet am_rI fl_X7_lateSet := by
  intro p e R s m args below meth c cells slots Q CX as h r q
  unfold fl_X7_lateSet at q
  split at q
  · exact am_run_ok CX ok_X7_lateSet (K := [(4, pk_X7_lateSet_4 (g_X7_lateSet_4 am_fu))]) (am_K1 (Wp := am_W p l e R s m args below meth c cells slots G 3 (Q r)) (pk_X7_lateSet_4_ok (Wp := am_W p l e R s m args below meth c cells slots G 3 (Q r) 4) (w_X7_lateSet_4 CX am_fu)) am_K0) 7 0 _ _ _ q
  · cases q
theorem s_X7_lateSet : ∀ as h x, fl_X7_lateSet as h = some x → (∀ k, (some 7 : Option Nat) = some k → ∃ (j : Nat) (as' : List AV), as = .inr (.inr (.inl (k, j))) :: as') ∧ (am_l0 as).length ≤ 3 := by
  intro as h x q
  unfold fl_X7_lateSet at q
  split at q
  · exact ⟨fun k e => by cases e; exact ⟨_, _, rfl⟩, Nat.le_of_ble_eq_true rfl⟩
  · cases q
theorem M_X7_lateSet (l : Launch) (G : AG) : am_M l G yX7_lateSet cX7_lateSet 3 (some .int) 2 43 (some 7) F_X7_lateSet := am_M_of (f := fl_X7_lateSet) (toR := fun x => (some (.inl x.1), x.2)) (P := P_X7_lateSet) (Rr := am_rI) (own := RX7) (by decide) rfl (fun _ _ => rfl) s_X7_lateSet am_wrI am_rkI pf_RX7 pk_RX7 ps_RX7 (List.forall_mem_cons.mpr ⟨cv_RX7_50 l G (by decide) (by decide), (fun _ q => by cases q)⟩) (fun _ q => by cases q) (fun _ q => by cases q) (b_X7_lateSet l G)
def C_X7_wearAll : List AC := [(0, .iconst 0, 1, []), (1, .istore_n 1, 2, []), (2, .iconst 0, 3, []), (3, .istore_n 2, 4, []), (4, .iload_n 2, 5, []), (5, .aload_n 0, 6, []), (6, .getfield 7, 9, []), (9, .iconst 2, 10, []), (10, .iaload, 11, []), (11, .if_icmp .ge 18, 14, [29]), (14, .iload_n 1, 15, []), (15, .aload_n 0, 16, []), (16, .iload_n 2, 17, []), (17, .iconst 3, 18, []), (18, .invokevirtual 46, 21, []), (21, .iadd, 22, []), (22, .istore_n 1, 23, []), (23, .iinc 2 1, 26, []), (26, .goto (-22), 29, [4]), (29, .iload_n 1, 30, []), (30, .ireturn, 31, [])]
theorem ok_X7_wearAll : ∀ x ∈ C_X7_wearAll, am_ok cX7_wearAll 3 x = true := by decide +kernel
noncomputable def P_X7_wearAll : AP := (PF_RX7, PK_RX7, PS_RX7, [(46, 3, F_X7_its)], [], [])
noncomputable def g_X7_wearAll_4  : Nat → Int32 → Int32 → HP → Option (Int32 × HP)
  | 0, _, _, _ => none
  | n + 1, a1, a2, h => (am_ix (2 : Int32) 64).bind (fun k_1 => if h_rI h 13 0 k_1 ≤ a2 then (some (a1, h)) else ((f_X7_its a2 3 h).bind (fun q_2 => g_X7_wearAll_4 n (a1 + q_2.1) (a2 + 1) q_2.2)))
def pk_X7_wearAll_4 (k : Int32 → Int32 → HP → Option (Int32 × HP)) : List AV → List AV → HP → Option (Int32 × HP) := fun L st h => match L, st with
  | [.inr (.inr (.inl (7, 0))), .inl a1, .inl a2], [] => k a1 a2 h
  | _, _ => none
theorem pk_X7_wearAll_4_ok {Wp : List AV → List AV → HP → Prop} {r : (Int32 × HP)} {k : Int32 → Int32 → HP → Option (Int32 × HP)} (hk : ∀ (a1 : Int32) (a2 : Int32) (h : HP), k a1 a2 h = some r → Wp [.inr (.inr (.inl (7, 0))), .inl a1, .inl a2] [] h) : ∀ L st h, pk_X7_wearAll_4 k L st h = some r → Wp L st h := by
  intro L st h q
  unfold pk_X7_wearAll_4 at q
  split at q
  · exact hk _ _ _ q
  · cases q
noncomputable def f_X7_wearAll  (h : HP) : Option (Int32 × HP) := g_X7_wearAll_4 am_fu 0 0 h
noncomputable def fl_X7_wearAll : List AV → HP → Option (Int32 × HP) := fun as h => match as with
  | [.inr (.inr (.inl (7, 0)))] => f_X7_wearAll h
  | _ => none
noncomputable def F_X7_wearAll : AF := .inl fl_X7_wearAll
set_option maxRecDepth 20000 in
theorem w_X7_wearAll_4 {p : Program} {l : Launch} {e : Env} {R : Room} {s : State} {m : MethodId} {args : Array Value} {below : List Frame} {meth : Method} {c : Code} {cells slots : Nat} {G : AG} {Q : (Int32 × HP) → State → Prop} (CX : am_X p l e R s m args below meth c cells slots G 3 cX7_wearAll RX7 am_tb P_X7_wearAll am_rI Q) {r : (Int32 × HP)} : ∀ (n : Nat) (a1 : Int32) (a2 : Int32) (h : HP), g_X7_wearAll_4 n a1 a2 h = some r → am_W p l e R s m args below meth c cells slots G 3 (Q r) 4 [.inr (.inr (.inl (7, 0))), .inl a1, .inl a2] [] h := by
  intro n
  induction n with
  | zero =>
    intro a1 a2 h q
    have q9 : (none : Option (Int32 × HP)) = some r := q
    cases q9
  | succ n ih =>
    intro a1 a2 h q
    exact am_run_ok CX ok_X7_wearAll (K := [(4, pk_X7_wearAll_4 (g_X7_wearAll_4 n))]) (am_K1 (Wp := am_W p l e R s m args below meth c cells slots G 3 (Q r)) (pk_X7_wearAll_4_ok (Wp := am_W p l e R s m args below meth c cells slots G 3 (Q r) 4) ih) am_K0) 18 4 _ _ _ q
set_option maxRecDepth 20000 in
theorem b_X7_wearAll (l : Launch) (G : AG) : am_B l G 3 cX7_wearAll RX7 am_tb P_X7_wearAll am_rI fl_X7_wearAll := by
  intro p e R s m args below meth c cells slots Q CX as h r q
  unfold fl_X7_wearAll at q
  split at q
  · exact am_run_ok CX ok_X7_wearAll (K := [(4, pk_X7_wearAll_4 (g_X7_wearAll_4 am_fu))]) (am_K1 (Wp := am_W p l e R s m args below meth c cells slots G 3 (Q r)) (pk_X7_wearAll_4_ok (Wp := am_W p l e R s m args below meth c cells slots G 3 (Q r) 4) (w_X7_wearAll_4 CX am_fu)) am_K0) 7 0 _ _ _ q
  · cases q
theorem s_X7_wearAll : ∀ as h x, fl_X7_wearAll as h = some x → (∀ k, (some 7 : Option Nat) = some k → ∃ (j : Nat) (as' : List AV), as = .inr (.inr (.inl (k, j))) :: as') ∧ (am_l0 as).length ≤ 3 := by
  intro as h x q
  unfold fl_X7_wearAll at q
  split at q
  · exact ⟨fun k e => by cases e; exact ⟨_, _, rfl⟩, Nat.le_of_ble_eq_true rfl⟩
  · cases q
theorem M_X7_wearAll (l : Launch) (G : AG) : am_M l G yX7_wearAll cX7_wearAll 3 (some .int) 1 22 (some 7) F_X7_wearAll := am_M_of (f := fl_X7_wearAll) (toR := fun x => (some (.inl x.1), x.2)) (P := P_X7_wearAll) (Rr := am_rI) (own := RX7) (by decide) rfl (fun _ _ => rfl) s_X7_wearAll am_wrI am_rkI pf_RX7 pk_RX7 ps_RX7 (List.forall_mem_cons.mpr ⟨cv_RX7_46 l G (by decide) (by decide), (fun _ q => by cases q)⟩) (fun _ q => by cases q) (fun _ q => by cases q) (b_X7_wearAll l G)
theorem cv_RX7_144 (l : Launch) (G : AG) {fr lo : Nat} (h1 : 1 + 1 ≤ fr) (h2 : 8 + (3 + 11) + 22 ≤ lo) : am_cvOK l G RX7 fr lo (144, 1, F_X7_lentSet) := ⟨yX7_lentSet, cX7_lentSet, 3, (some .int), 1, 22, 7, RX7, M_X7_lentSet l G, ⟨(am_tb_mem (wd_21 _ (List.mem_of_getElem? (i := 7) rfl))), (am_tb_mem (wd_21 _ (List.mem_of_getElem? (i := 8) rfl))), (am_tb_mem (wd_0 _ (List.mem_of_getElem? (i := 36) rfl))), (am_tb_mem (wd_1 _ (List.mem_of_getElem? (i := 26) rfl))), (am_tb_mem (wd_21 _ (List.mem_of_getElem? (i := 9) rfl)))⟩, ⟨rfl, by decide, by decide, by decide +kernel⟩, Or.inl ⟨by decide, rfl⟩, h1, h2⟩
theorem cv_RX7_147 (l : Launch) (G : AG) {fr lo : Nat} (h1 : 2 + 1 ≤ fr) (h2 : 8 + (3 + 11) + 43 ≤ lo) : am_cvOK l G RX7 fr lo (147, 1, F_X7_lateSet) := ⟨yX7_lateSet, cX7_lateSet, 3, (some .int), 2, 43, 7, RX7, M_X7_lateSet l G, ⟨(am_tb_mem (wd_21 _ (List.mem_of_getElem? (i := 10) rfl))), (am_tb_mem (wd_21 _ (List.mem_of_getElem? (i := 11) rfl))), (am_tb_mem (wd_0 _ (List.mem_of_getElem? (i := 37) rfl))), (am_tb_mem (wd_1 _ (List.mem_of_getElem? (i := 26) rfl))), (am_tb_mem (wd_21 _ (List.mem_of_getElem? (i := 12) rfl)))⟩, ⟨rfl, by decide, by decide, by decide +kernel⟩, Or.inl ⟨by decide, rfl⟩, h1, h2⟩
theorem cv_RX7_150 (l : Launch) (G : AG) {fr lo : Nat} (h1 : 1 + 1 ≤ fr) (h2 : 8 + (3 + 11) + 22 ≤ lo) : am_cvOK l G RX7 fr lo (150, 1, F_X7_wearAll) := ⟨yX7_wearAll, cX7_wearAll, 3, (some .int), 1, 22, 7, RX7, M_X7_wearAll l G, ⟨(am_tb_mem (wd_21 _ (List.mem_of_getElem? (i := 13) rfl))), (am_tb_mem (wd_21 _ (List.mem_of_getElem? (i := 14) rfl))), (am_tb_mem (wd_0 _ (List.mem_of_getElem? (i := 38) rfl))), (am_tb_mem (wd_1 _ (List.mem_of_getElem? (i := 26) rfl))), (am_tb_mem (wd_21 _ (List.mem_of_getElem? (i := 15) rfl)))⟩, ⟨rfl, by decide, by decide, by decide +kernel⟩, Or.inl ⟨by decide, rfl⟩, h1, h2⟩
def C_X7_now : List AC := [(0, .iload_n 1, 1, []), (1, .tableswitch 73 0 5 #[39, 46, 51, 56, 61, 66], 40, [74, 40, 47, 52, 57, 62, 67]), (40, .aload_n 0, 41, []), (41, .getfield 7, 44, []), (44, .iconst 0, 45, []), (45, .iaload, 46, []), (46, .ireturn, 47, []), (47, .aload_n 0, 48, []), (48, .invokevirtual 140, 51, []), (51, .ireturn, 52, []), (52, .aload_n 0, 53, []), (53, .invokevirtual 144, 56, []), (56, .ireturn, 57, []), (57, .aload_n 0, 58, []), (58, .invokevirtual 147, 61, []), (61, .ireturn, 62, []), (62, .aload_n 0, 63, []), (63, .invokevirtual 150, 66, []), (66, .ireturn, 67, []), (67, .aload_n 0, 68, []), (68, .getfield 7, 71, []), (71, .iconst 1, 72, []), (72, .iaload, 73, []), (73, .ireturn, 74, []), (74, .aload_n 0, 75, []), (75, .ldc 41, 77, []), (77, .invokevirtual 78, 80, []), (80, .ireturn, 81, [])]
theorem ok_X7_now : ∀ x ∈ C_X7_now, am_ok cX7_now 2 x = true := by decide +kernel
noncomputable def P_X7_now : AP := (PF_RX7, PK_RX7, PS_RX7, [(78, 2, F_X7_finds), (140, 1, F_X7_finesAll), (144, 1, F_X7_lentSet), (147, 1, F_X7_lateSet), (150, 1, F_X7_wearAll)], [], [])
noncomputable def f_X7_now (a1 : Int32) (h : HP) : Option (Int32 × HP) := if a1 = 0 then ((am_ix (0 : Int32) 64).bind (fun k_1 => some (h_rI h 13 0 k_1, h))) else (if a1 = 1 then ((f_X7_finesAll h).bind (fun q_2 => some (q_2.1, q_2.2))) else (if a1 = 2 then ((f_X7_lentSet h).bind (fun q_3 => some (q_3.1, q_3.2))) else (if a1 = 3 then ((f_X7_lateSet h).bind (fun q_4 => some (q_4.1, q_4.2))) else (if a1 = 4 then ((f_X7_wearAll h).bind (fun q_5 => some (q_5.1, q_5.2))) else (if a1 = 5 then ((am_ix (1 : Int32) 64).bind (fun k_6 => some (h_rI h 13 0 k_6, h))) else ((f_X7_finds ((-1000000001)) h).bind (fun q_7 => some (q_7.1, q_7.2))))))))
noncomputable def fl_X7_now : List AV → HP → Option (Int32 × HP) := fun as h => match as with
  | [.inr (.inr (.inl (7, 0))), .inl a1] => f_X7_now a1 h
  | _ => none
noncomputable def F_X7_now : AF := .inl fl_X7_now
set_option maxRecDepth 20000 in
theorem b_X7_now (l : Launch) (G : AG) : am_B l G 2 cX7_now RX7 am_tb P_X7_now am_rI fl_X7_now := by
  intro p e R s m args below meth c cells slots Q CX as h r q
  unfold fl_X7_now at q
  split at q
  · exact am_run_ok CX ok_X7_now (K := []) (am_K0 (Wp := am_W p l e R s m args below meth c cells slots G 2 (Q r))) 10 0 _ _ _ q
  · cases q
theorem s_X7_now : ∀ as h x, fl_X7_now as h = some x → (∀ k, (some 7 : Option Nat) = some k → ∃ (j : Nat) (as' : List AV), as = .inr (.inr (.inl (k, j))) :: as') ∧ (am_l0 as).length ≤ 2 := by
  intro as h x q
  unfold fl_X7_now at q
  split at q
  · exact ⟨fun k e => by cases e; exact ⟨_, _, rfl⟩, Nat.le_of_ble_eq_true rfl⟩
  · cases q
theorem M_X7_now (l : Launch) (G : AG) : am_M l G yX7_now cX7_now 2 (some .int) 3 65 (some 7) F_X7_now := am_M_of (f := fl_X7_now) (toR := fun x => (some (.inl x.1), x.2)) (P := P_X7_now) (Rr := am_rI) (own := RX7) (by decide) rfl (fun _ _ => rfl) s_X7_now am_wrI am_rkI pf_RX7 pk_RX7 ps_RX7 (List.forall_mem_cons.mpr ⟨cv_RX7_78 l G (by decide) (by decide), (List.forall_mem_cons.mpr ⟨cv_RX7_140 l G (by decide) (by decide), (List.forall_mem_cons.mpr ⟨cv_RX7_144 l G (by decide) (by decide), (List.forall_mem_cons.mpr ⟨cv_RX7_147 l G (by decide) (by decide), (List.forall_mem_cons.mpr ⟨cv_RX7_150 l G (by decide) (by decide), (fun _ q => by cases q)⟩)⟩)⟩)⟩)⟩) (fun _ q => by cases q) (fun _ q => by cases q) (b_X7_now l G)
def C_X7_oneMore : List AC := [(0, .iload_n 2, 1, []), (1, .istore_n 3, 2, []), (2, .iconst 0, 3, []), (3, .istore 4, 5, []), (5, .iload 4, 7, []), (7, .aload_n 0, 8, []), (8, .getfield 7, 11, []), (11, .iconst 2, 12, []), (12, .iaload, 13, []), (13, .if_icmp .ge 74, 16, [87]), (16, .iconst 0, 17, []), (17, .istore 5, 19, []), (19, .iload 5, 21, []), (21, .bipush 16, 23, []), (23, .if_icmp .ge 58, 26, [81]), (26, .aload_n 0, 27, []), (27, .iload 4, 29, []), (29, .iconst 4, 30, []), (30, .invokevirtual 46, 33, []), (33, .iload_n 1, 34, []), (34, .if_icmp .ne 47, 37, [81]), (37, .iload_n 3, 38, []), (38, .iload_n 2, 39, []), (39, .iload 5, 41, []), (41, .ishr, 42, []), (42, .iconst 1, 43, []), (43, .iand, 44, []), (44, .iconst 1, 45, []), (45, .if_icmp .ne 27, 48, [72]), (48, .aload_n 0, 49, []), (49, .iload 4, 51, []), (51, .iload 5, 53, []), (53, .invokevirtual 93, 56, []), (56, .ifCond .eq 16, 59, [72]), (59, .iconst 1, 60, []), (60, .aload_n 0, 61, []), (61, .iload 4, 63, []), (63, .iload 5, 65, []), (65, .invokevirtual 97, 68, []), (68, .ishl, 69, []), (69, .goto 4, 72, [73]), (72, .iconst 0, 73, []), (73, .ior, 74, []), (74, .istore_n 3, 75, []), (75, .iinc 5 1, 78, []), (78, .goto (-59), 81, [19]), (81, .iinc 4 1, 84, []), (84, .goto (-79), 87, [5]), (87, .iload_n 3, 88, []), (88, .ireturn, 89, [])]
theorem ok_X7_oneMore : ∀ x ∈ C_X7_oneMore, am_ok cX7_oneMore 6 x = true := by decide +kernel
noncomputable def P_X7_oneMore : AP := (PF_RX7, PK_RX7, PS_RX7, [(46, 3, F_X7_its), (93, 3, F_X7_opens), (97, 3, F_X7_leadsTo)], [], [])
noncomputable def g_X7_oneMore_19 (k5 : Int32 → Int32 → Int32 → Int32 → HP → Option (Int32 × HP))  : Nat → Int32 → Int32 → Int32 → Int32 → Int32 → HP → Option (Int32 × HP)
  | 0, _, _, _, _, _, _ => none
  | n + 1, a1, a2, a3, a4, a5, h => if (16 : Int32) ≤ a5 then (k5 a1 a2 a3 (a4 + 1) h) else ((f_X7_its a4 4 h).bind (fun q_1 => if q_1.1 = a1 then (if (a2 >>> (a5 &&& 31)) &&& 1 = (1 : Int32) then ((f_X7_opens a4 a5 q_1.2).bind (fun q_2 => if q_2.1 = (0 : Int32) then (g_X7_oneMore_19 k5 n a1 a2 (a3 ||| 0) a4 (a5 + 1) q_2.2) else ((f_X7_leadsTo a4 a5 q_2.2).bind (fun q_3 => g_X7_oneMore_19 k5 n a1 a2 (a3 ||| (1 <<< (q_3.1 &&& 31))) a4 (a5 + 1) q_3.2)))) else (g_X7_oneMore_19 k5 n a1 a2 (a3 ||| 0) a4 (a5 + 1) q_1.2)) else (k5 a1 a2 a3 (a4 + 1) q_1.2)))
def pk_X7_oneMore_19 (k : Int32 → Int32 → Int32 → Int32 → Int32 → HP → Option (Int32 × HP)) : List AV → List AV → HP → Option (Int32 × HP) := fun L st h => match L, st with
  | [.inr (.inr (.inl (7, 0))), .inl a1, .inl a2, .inl a3, .inl a4, .inl a5], [] => k a1 a2 a3 a4 a5 h
  | _, _ => none
theorem pk_X7_oneMore_19_ok {Wp : List AV → List AV → HP → Prop} {r : (Int32 × HP)} {k : Int32 → Int32 → Int32 → Int32 → Int32 → HP → Option (Int32 × HP)} (hk : ∀ (a1 : Int32) (a2 : Int32) (a3 : Int32) (a4 : Int32) (a5 : Int32) (h : HP), k a1 a2 a3 a4 a5 h = some r → Wp [.inr (.inr (.inl (7, 0))), .inl a1, .inl a2, .inl a3, .inl a4, .inl a5] [] h) : ∀ L st h, pk_X7_oneMore_19 k L st h = some r → Wp L st h := by
  intro L st h q
  unfold pk_X7_oneMore_19 at q
  split at q
  · exact hk _ _ _ _ _ _ q
  · cases q
noncomputable def g_X7_oneMore_5  : Nat → Int32 → Int32 → Int32 → Int32 → HP → Option (Int32 × HP)
  | 0, _, _, _, _, _ => none
  | n + 1, a1, a2, a3, a4, h => (am_ix (2 : Int32) 64).bind (fun k_1 => if h_rI h 13 0 k_1 ≤ a4 then (some (a3, h)) else (g_X7_oneMore_19 (g_X7_oneMore_5 n) am_fu a1 a2 a3 a4 0 h))
def pk_X7_oneMore_5 (k : Int32 → Int32 → Int32 → Int32 → HP → Option (Int32 × HP)) : List AV → List AV → HP → Option (Int32 × HP) := fun L st h => match L, st with
  | [.inr (.inr (.inl (7, 0))), .inl a1, .inl a2, .inl a3, .inl a4, _], [] => k a1 a2 a3 a4 h
  | _, _ => none
theorem pk_X7_oneMore_5_ok {Wp : List AV → List AV → HP → Prop} {r : (Int32 × HP)} {k : Int32 → Int32 → Int32 → Int32 → HP → Option (Int32 × HP)} (hk : ∀ (a1 : Int32) (a2 : Int32) (a3 : Int32) (a4 : Int32) (w1 : AV) (h : HP), k a1 a2 a3 a4 h = some r → Wp [.inr (.inr (.inl (7, 0))), .inl a1, .inl a2, .inl a3, .inl a4, w1] [] h) : ∀ L st h, pk_X7_oneMore_5 k L st h = some r → Wp L st h := by
  intro L st h q
  unfold pk_X7_oneMore_5 at q
  split at q
  · exact hk _ _ _ _ _ _ q
  · cases q
noncomputable def f_X7_oneMore (a1 : Int32) (a2 : Int32) (h : HP) : Option (Int32 × HP) := g_X7_oneMore_5 am_fu a1 a2 a2 0 h
noncomputable def fl_X7_oneMore : List AV → HP → Option (Int32 × HP) := fun as h => match as with
  | [.inr (.inr (.inl (7, 0))), .inl a1, .inl a2] => f_X7_oneMore a1 a2 h
  | _ => none
noncomputable def F_X7_oneMore : AF := .inl fl_X7_oneMore
set_option maxRecDepth 20000 in
theorem w_X7_oneMore_19 {p : Program} {l : Launch} {e : Env} {R : Room} {s : State} {m : MethodId} {args : Array Value} {below : List Frame} {meth : Method} {c : Code} {cells slots : Nat} {G : AG} {Q : (Int32 × HP) → State → Prop} (CX : am_X p l e R s m args below meth c cells slots G 6 cX7_oneMore RX7 am_tb P_X7_oneMore am_rI Q) {r : (Int32 × HP)} {k5 : Int32 → Int32 → Int32 → Int32 → HP → Option (Int32 × HP)} (hk5 : ∀ (a1 : Int32) (a2 : Int32) (a3 : Int32) (a4 : Int32) (w1 : AV) (h : HP), k5 a1 a2 a3 a4 h = some r → am_W p l e R s m args below meth c cells slots G 6 (Q r) 5 [.inr (.inr (.inl (7, 0))), .inl a1, .inl a2, .inl a3, .inl a4, w1] [] h) : ∀ (n : Nat) (a1 : Int32) (a2 : Int32) (a3 : Int32) (a4 : Int32) (a5 : Int32) (h : HP), g_X7_oneMore_19 k5 n a1 a2 a3 a4 a5 h = some r → am_W p l e R s m args below meth c cells slots G 6 (Q r) 19 [.inr (.inr (.inl (7, 0))), .inl a1, .inl a2, .inl a3, .inl a4, .inl a5] [] h := by
  intro n
  induction n with
  | zero =>
    intro a1 a2 a3 a4 a5 h q
    have q9 : (none : Option (Int32 × HP)) = some r := q
    cases q9
  | succ n ih =>
    intro a1 a2 a3 a4 a5 h q
    exact am_run_ok CX ok_X7_oneMore (K := [(5, pk_X7_oneMore_5 (k5)), (19, pk_X7_oneMore_19 (g_X7_oneMore_19 k5 n))]) (am_K1 (Wp := am_W p l e R s m args below meth c cells slots G 6 (Q r)) (pk_X7_oneMore_5_ok (Wp := am_W p l e R s m args below meth c cells slots G 6 (Q r) 5) hk5) (am_K1 (Wp := am_W p l e R s m args below meth c cells slots G 6 (Q r)) (pk_X7_oneMore_19_ok (Wp := am_W p l e R s m args below meth c cells slots G 6 (Q r) 19) ih) am_K0)) 36 19 _ _ _ q
set_option maxRecDepth 20000 in
theorem w_X7_oneMore_5 {p : Program} {l : Launch} {e : Env} {R : Room} {s : State} {m : MethodId} {args : Array Value} {below : List Frame} {meth : Method} {c : Code} {cells slots : Nat} {G : AG} {Q : (Int32 × HP) → State → Prop} (CX : am_X p l e R s m args below meth c cells slots G 6 cX7_oneMore RX7 am_tb P_X7_oneMore am_rI Q) {r : (Int32 × HP)} : ∀ (n : Nat) (a1 : Int32) (a2 : Int32) (a3 : Int32) (a4 : Int32) (w1 : AV) (h : HP), g_X7_oneMore_5 n a1 a2 a3 a4 h = some r → am_W p l e R s m args below meth c cells slots G 6 (Q r) 5 [.inr (.inr (.inl (7, 0))), .inl a1, .inl a2, .inl a3, .inl a4, w1] [] h := by
  intro n
  induction n with
  | zero =>
    intro a1 a2 a3 a4 w1 h q
    have q9 : (none : Option (Int32 × HP)) = some r := q
    cases q9
  | succ n ih =>
    intro a1 a2 a3 a4 w1 h q
    exact am_run_ok CX ok_X7_oneMore (K := [(19, pk_X7_oneMore_19 (g_X7_oneMore_19 (g_X7_oneMore_5 n) am_fu))]) (am_K1 (Wp := am_W p l e R s m args below meth c cells slots G 6 (Q r)) (pk_X7_oneMore_19_ok (Wp := am_W p l e R s m args below meth c cells slots G 6 (Q r) 19) (w_X7_oneMore_19 CX ih am_fu)) am_K0) 11 5 _ _ _ q
set_option maxRecDepth 20000 in
theorem b_X7_oneMore (l : Launch) (G : AG) : am_B l G 6 cX7_oneMore RX7 am_tb P_X7_oneMore am_rI fl_X7_oneMore := by
  intro p e R s m args below meth c cells slots Q CX as h r q
  unfold fl_X7_oneMore at q
  split at q
  · exact am_run_ok CX ok_X7_oneMore (K := [(5, pk_X7_oneMore_5 (g_X7_oneMore_5 am_fu))]) (am_K1 (Wp := am_W p l e R s m args below meth c cells slots G 6 (Q r)) (pk_X7_oneMore_5_ok (Wp := am_W p l e R s m args below meth c cells slots G 6 (Q r) 5) (w_X7_oneMore_5 CX am_fu)) am_K0) 7 0 _ _ _ q
  · cases q
theorem s_X7_oneMore : ∀ as h x, fl_X7_oneMore as h = some x → (∀ k, (some 7 : Option Nat) = some k → ∃ (j : Nat) (as' : List AV), as = .inr (.inr (.inl (k, j))) :: as') ∧ (am_l0 as).length ≤ 6 := by
  intro as h x q
  unfold fl_X7_oneMore at q
  split at q
  · exact ⟨fun k e => by cases e; exact ⟨_, _, rfl⟩, Nat.le_of_ble_eq_true rfl⟩
  · cases q
theorem M_X7_oneMore (l : Launch) (G : AG) : am_M l G yX7_oneMore cX7_oneMore 6 (some .int) 5 112 (some 7) F_X7_oneMore := am_M_of (f := fl_X7_oneMore) (toR := fun x => (some (.inl x.1), x.2)) (P := P_X7_oneMore) (Rr := am_rI) (own := RX7) (by decide) rfl (fun _ _ => rfl) s_X7_oneMore am_wrI am_rkI pf_RX7 pk_RX7 ps_RX7 (List.forall_mem_cons.mpr ⟨cv_RX7_46 l G (by decide) (by decide), (List.forall_mem_cons.mpr ⟨cv_RX7_93 l G (by decide) (by decide), (List.forall_mem_cons.mpr ⟨cv_RX7_97 l G (by decide) (by decide), (fun _ q => by cases q)⟩)⟩)⟩) (fun _ q => by cases q) (fun _ q => by cases q) (b_X7_oneMore l G)
theorem cv_RX7_153 (l : Launch) (G : AG) {fr lo : Nat} (h1 : 5 + 1 ≤ fr) (h2 : 8 + (6 + 11) + 112 ≤ lo) : am_cvOK l G RX7 fr lo (153, 3, F_X7_oneMore) := ⟨yX7_oneMore, cX7_oneMore, 6, (some .int), 5, 112, 7, RX7, M_X7_oneMore l G, ⟨(am_tb_mem (wd_21 _ (List.mem_of_getElem? (i := 26) rfl))), (am_tb_mem (wd_21 _ (List.mem_of_getElem? (i := 27) rfl))), (am_tb_mem (wd_1 _ (List.mem_of_getElem? (i := 1) rfl))), (am_tb_mem (wd_1 _ (List.mem_of_getElem? (i := 26) rfl))), (am_tb_mem (wd_21 _ (List.mem_of_getElem? (i := 28) rfl)))⟩, ⟨rfl, by decide, by decide, by decide +kernel⟩, Or.inl ⟨by decide, rfl⟩, h1, h2⟩
def C_X7_reachOf : List AC := [(0, .iconst 1, 1, []), (1, .aload_n 0, 2, []), (2, .iload_n 1, 3, []), (3, .iconst 0, 4, []), (4, .invokevirtual 108, 7, []), (7, .ishl, 8, []), (8, .istore_n 2, 9, []), (9, .aload_n 0, 10, []), (10, .iload_n 1, 11, []), (11, .iload_n 2, 12, []), (12, .invokevirtual 153, 15, []), (15, .istore_n 3, 16, []), (16, .iload_n 3, 17, []), (17, .iload_n 2, 18, []), (18, .if_icmp .eq 15, 21, [33]), (21, .iload_n 3, 22, []), (22, .istore_n 2, 23, []), (23, .aload_n 0, 24, []), (24, .iload_n 1, 25, []), (25, .iload_n 2, 26, []), (26, .invokevirtual 153, 29, []), (29, .istore_n 3, 30, []), (30, .goto (-14), 33, [16]), (33, .iload_n 2, 34, []), (34, .ireturn, 35, [])]
theorem ok_X7_reachOf : ∀ x ∈ C_X7_reachOf, am_ok cX7_reachOf 4 x = true := by decide +kernel
noncomputable def P_X7_reachOf : AP := (PF_RX7, PK_RX7, PS_RX7, [(108, 3, F_X7_whose), (153, 3, F_X7_oneMore)], [], [])
noncomputable def g_X7_reachOf_16  : Nat → Int32 → Int32 → Int32 → HP → Option (Int32 × HP)
  | 0, _, _, _, _ => none
  | n + 1, a1, a2, a3, h => if a3 = a2 then (some (a2, h)) else ((f_X7_oneMore a1 a3 h).bind (fun q_1 => g_X7_reachOf_16 n a1 a3 q_1.1 q_1.2))
def pk_X7_reachOf_16 (k : Int32 → Int32 → Int32 → HP → Option (Int32 × HP)) : List AV → List AV → HP → Option (Int32 × HP) := fun L st h => match L, st with
  | [.inr (.inr (.inl (7, 0))), .inl a1, .inl a2, .inl a3], [] => k a1 a2 a3 h
  | _, _ => none
theorem pk_X7_reachOf_16_ok {Wp : List AV → List AV → HP → Prop} {r : (Int32 × HP)} {k : Int32 → Int32 → Int32 → HP → Option (Int32 × HP)} (hk : ∀ (a1 : Int32) (a2 : Int32) (a3 : Int32) (h : HP), k a1 a2 a3 h = some r → Wp [.inr (.inr (.inl (7, 0))), .inl a1, .inl a2, .inl a3] [] h) : ∀ L st h, pk_X7_reachOf_16 k L st h = some r → Wp L st h := by
  intro L st h q
  unfold pk_X7_reachOf_16 at q
  split at q
  · exact hk _ _ _ _ q
  · cases q
noncomputable def f_X7_reachOf (a1 : Int32) (h : HP) : Option (Int32 × HP) := (f_X7_whose a1 0 h).bind (fun q_1 => (f_X7_oneMore a1 (1 <<< (q_1.1 &&& 31)) q_1.2).bind (fun q_2 => g_X7_reachOf_16 am_fu a1 (1 <<< (q_1.1 &&& 31)) q_2.1 q_2.2))
noncomputable def fl_X7_reachOf : List AV → HP → Option (Int32 × HP) := fun as h => match as with
  | [.inr (.inr (.inl (7, 0))), .inl a1] => f_X7_reachOf a1 h
  | _ => none
noncomputable def F_X7_reachOf : AF := .inl fl_X7_reachOf
set_option maxRecDepth 20000 in
theorem w_X7_reachOf_16 {p : Program} {l : Launch} {e : Env} {R : Room} {s : State} {m : MethodId} {args : Array Value} {below : List Frame} {meth : Method} {c : Code} {cells slots : Nat} {G : AG} {Q : (Int32 × HP) → State → Prop} (CX : am_X p l e R s m args below meth c cells slots G 4 cX7_reachOf RX7 am_tb P_X7_reachOf am_rI Q) {r : (Int32 × HP)} : ∀ (n : Nat) (a1 : Int32) (a2 : Int32) (a3 : Int32) (h : HP), g_X7_reachOf_16 n a1 a2 a3 h = some r → am_W p l e R s m args below meth c cells slots G 4 (Q r) 16 [.inr (.inr (.inl (7, 0))), .inl a1, .inl a2, .inl a3] [] h := by
  intro n
  induction n with
  | zero =>
    intro a1 a2 a3 h q
    have q9 : (none : Option (Int32 × HP)) = some r := q
    cases q9
  | succ n ih =>
    intro a1 a2 a3 h q
    exact am_run_ok CX ok_X7_reachOf (K := [(16, pk_X7_reachOf_16 (g_X7_reachOf_16 n))]) (am_K1 (Wp := am_W p l e R s m args below meth c cells slots G 4 (Q r)) (pk_X7_reachOf_16_ok (Wp := am_W p l e R s m args below meth c cells slots G 4 (Q r) 16) ih) am_K0) 14 16 _ _ _ q
set_option maxRecDepth 20000 in
theorem b_X7_reachOf (l : Launch) (G : AG) : am_B l G 4 cX7_reachOf RX7 am_tb P_X7_reachOf am_rI fl_X7_reachOf := by
  intro p e R s m args below meth c cells slots Q CX as h r q
  unfold fl_X7_reachOf at q
  split at q
  · exact am_run_ok CX ok_X7_reachOf (K := [(16, pk_X7_reachOf_16 (g_X7_reachOf_16 am_fu))]) (am_K1 (Wp := am_W p l e R s m args below meth c cells slots G 4 (Q r)) (pk_X7_reachOf_16_ok (Wp := am_W p l e R s m args below meth c cells slots G 4 (Q r) 16) (w_X7_reachOf_16 CX am_fu)) am_K0) 15 0 _ _ _ q
  · cases q
theorem s_X7_reachOf : ∀ as h x, fl_X7_reachOf as h = some x → (∀ k, (some 7 : Option Nat) = some k → ∃ (j : Nat) (as' : List AV), as = .inr (.inr (.inl (k, j))) :: as') ∧ (am_l0 as).length ≤ 4 := by
  intro as h x q
  unfold fl_X7_reachOf at q
  split at q
  · exact ⟨fun k e => by cases e; exact ⟨_, _, rfl⟩, Nat.le_of_ble_eq_true rfl⟩
  · cases q
theorem M_X7_reachOf (l : Launch) (G : AG) : am_M l G yX7_reachOf cX7_reachOf 4 (some .int) 6 137 (some 7) F_X7_reachOf := am_M_of (f := fl_X7_reachOf) (toR := fun x => (some (.inl x.1), x.2)) (P := P_X7_reachOf) (Rr := am_rI) (own := RX7) (by decide) rfl (fun _ _ => rfl) s_X7_reachOf am_wrI am_rkI pf_RX7 pk_RX7 ps_RX7 (List.forall_mem_cons.mpr ⟨cv_RX7_108 l G (by decide) (by decide), (List.forall_mem_cons.mpr ⟨cv_RX7_153 l G (by decide) (by decide), (fun _ q => by cases q)⟩)⟩) (fun _ q => by cases q) (fun _ q => by cases q) (b_X7_reachOf l G)
theorem cv_RX7_156 (l : Launch) (G : AG) {fr lo : Nat} (h1 : 6 + 1 ≤ fr) (h2 : 8 + (4 + 11) + 137 ≤ lo) : am_cvOK l G RX7 fr lo (156, 2, F_X7_reachOf) := ⟨yX7_reachOf, cX7_reachOf, 4, (some .int), 6, 137, 7, RX7, M_X7_reachOf l G, ⟨(am_tb_mem (wd_21 _ (List.mem_of_getElem? (i := 23) rfl))), (am_tb_mem (wd_21 _ (List.mem_of_getElem? (i := 24) rfl))), (am_tb_mem (wd_1 _ (List.mem_of_getElem? (i := 0) rfl))), (am_tb_mem (wd_1 _ (List.mem_of_getElem? (i := 26) rfl))), (am_tb_mem (wd_21 _ (List.mem_of_getElem? (i := 25) rfl)))⟩, ⟨rfl, by decide, by decide, by decide +kernel⟩, Or.inl ⟨by decide, rfl⟩, h1, h2⟩
def C_X7_comes : List AC := [(0, .aload_n 0, 1, []), (1, .iload_n 1, 2, []), (2, .invokevirtual 156, 5, []), (5, .iload_n 2, 6, []), (6, .ishr, 7, []), (7, .iconst 1, 8, []), (8, .iand, 9, []), (9, .iconst 1, 10, []), (10, .if_icmp .ne 7, 13, [17]), (13, .iconst 1, 14, []), (14, .goto 4, 17, [18]), (17, .iconst 0, 18, []), (18, .ireturn, 19, [])]
theorem ok_X7_comes : ∀ x ∈ C_X7_comes, am_ok cX7_comes 3 x = true := by decide +kernel
noncomputable def P_X7_comes : AP := (PF_RX7, PK_RX7, PS_RX7, [(156, 2, F_X7_reachOf)], [], [])
noncomputable def f_X7_comes (a1 : Int32) (a2 : Int32) (h : HP) : Option (Int32 × HP) := (f_X7_reachOf a1 h).bind (fun q_1 => if (q_1.1 >>> (a2 &&& 31)) &&& 1 = (1 : Int32) then (some (1, q_1.2)) else (some (0, q_1.2)))
noncomputable def fl_X7_comes : List AV → HP → Option (Int32 × HP) := fun as h => match as with
  | [.inr (.inr (.inl (7, 0))), .inl a1, .inl a2] => f_X7_comes a1 a2 h
  | _ => none
noncomputable def F_X7_comes : AF := .inl fl_X7_comes
set_option maxRecDepth 20000 in
theorem b_X7_comes (l : Launch) (G : AG) : am_B l G 3 cX7_comes RX7 am_tb P_X7_comes am_rZ fl_X7_comes := by
  intro p e R s m args below meth c cells slots Q CX as h r q
  unfold fl_X7_comes at q
  split at q
  · exact am_run_ok CX ok_X7_comes (K := []) (am_K0 (Wp := am_W p l e R s m args below meth c cells slots G 3 (Q r))) 15 0 _ _ _ q
  · cases q
theorem s_X7_comes : ∀ as h x, fl_X7_comes as h = some x → (∀ k, (some 7 : Option Nat) = some k → ∃ (j : Nat) (as' : List AV), as = .inr (.inr (.inl (k, j))) :: as') ∧ (am_l0 as).length ≤ 3 := by
  intro as h x q
  unfold fl_X7_comes at q
  split at q
  · exact ⟨fun k e => by cases e; exact ⟨_, _, rfl⟩, Nat.le_of_ble_eq_true rfl⟩
  · cases q
theorem M_X7_comes (l : Launch) (G : AG) : am_M l G yX7_comes cX7_comes 3 (some .boolean) 7 160 (some 7) F_X7_comes := am_M_of (f := fl_X7_comes) (toR := fun x => (some (.inl x.1), x.2)) (P := P_X7_comes) (Rr := am_rZ) (own := RX7) (by decide) rfl (fun _ _ => rfl) s_X7_comes am_wrI am_rkZ pf_RX7 pk_RX7 ps_RX7 (List.forall_mem_cons.mpr ⟨cv_RX7_156 l G (by decide) (by decide), (fun _ q => by cases q)⟩) (fun _ q => by cases q) (fun _ q => by cases q) (b_X7_comes l G)
def C_X7_moveAll : List AC := [(0, .iconst 0, 1, []), (1, .istore_n 3, 2, []), (2, .iload_n 3, 3, []), (3, .bipush 64, 5, []), (5, .if_icmp .ge 34, 8, [39]), (8, .iload_n 1, 9, []), (9, .ifCond .eq 15, 12, [24]), (12, .aload_n 2, 13, []), (13, .iload_n 3, 14, []), (14, .aload_n 0, 15, []), (15, .getfield 7, 18, []), (18, .iload_n 3, 19, []), (19, .iaload, 20, []), (20, .iastore, 21, []), (21, .goto 12, 24, [33]), (24, .aload_n 0, 25, []), (25, .getfield 7, 28, []), (28, .iload_n 3, 29, []), (29, .aload_n 2, 30, []), (30, .iload_n 3, 31, []), (31, .iaload, 32, []), (32, .iastore, 33, []), (33, .iinc 3 1, 36, []), (36, .goto (-34), 39, [2]), (39, .return_, 40, [])]
theorem ok_X7_moveAll : ∀ x ∈ C_X7_moveAll, am_ok cX7_moveAll 4 x = true := by decide +kernel
noncomputable def P_X7_moveAll : AP := (PF_RX7, PK_RX7, PS_RX7, [], [], [])
noncomputable def g_X7_moveAll_2  : Nat → Int32 → Nat → Int32 → HP → Option HP
  | 0, _, _, _, _ => none
  | n + 1, a1, a2, a3, h => if (64 : Int32) ≤ a3 then (some h) else (if a1 = (0 : Int32) then ((am_ix a3 (am_len 13 a2)).bind (fun k_1 => (am_ix a3 64).bind (fun k_2 => g_X7_moveAll_2 n a1 a2 (a3 + 1) (h_wI h 13 0 k_2 (h_rI h 13 a2 k_1))))) else ((am_ix a3 64).bind (fun k_3 => (am_ix a3 (am_len 13 a2)).bind (fun k_4 => g_X7_moveAll_2 n a1 a2 (a3 + 1) (h_wI h 13 a2 k_4 (h_rI h 13 0 k_3))))))
def pk_X7_moveAll_2 (k : Int32 → Nat → Int32 → HP → Option HP) : List AV → List AV → HP → Option HP := fun L st h => match L, st with
  | [.inr (.inr (.inl (7, 0))), .inl a1, .inr (.inr (.inl (13, a2))), .inl a3], [] => k a1 a2 a3 h
  | _, _ => none
theorem pk_X7_moveAll_2_ok {Wp : List AV → List AV → HP → Prop} {r : HP} {k : Int32 → Nat → Int32 → HP → Option HP} (hk : ∀ (a1 : Int32) (a2 : Nat) (a3 : Int32) (h : HP), k a1 a2 a3 h = some r → Wp [.inr (.inr (.inl (7, 0))), .inl a1, .inr (.inr (.inl (13, a2))), .inl a3] [] h) : ∀ L st h, pk_X7_moveAll_2 k L st h = some r → Wp L st h := by
  intro L st h q
  unfold pk_X7_moveAll_2 at q
  split at q
  · exact hk _ _ _ _ q
  · cases q
noncomputable def f_X7_moveAll (a1 : Int32) (a2 : Nat) (h : HP) : Option HP := g_X7_moveAll_2 am_fu a1 a2 0 h
noncomputable def fl_X7_moveAll : List AV → HP → Option HP := fun as h => match as with
  | [.inr (.inr (.inl (7, 0))), .inl a1, .inr (.inr (.inl (13, a2)))] => f_X7_moveAll a1 a2 h
  | _ => none
noncomputable def F_X7_moveAll : AF := .inr (.inl fl_X7_moveAll)
set_option maxRecDepth 20000 in
theorem w_X7_moveAll_2 {p : Program} {l : Launch} {e : Env} {R : Room} {s : State} {m : MethodId} {args : Array Value} {below : List Frame} {meth : Method} {c : Code} {cells slots : Nat} {G : AG} {Q : HP → State → Prop} (CX : am_X p l e R s m args below meth c cells slots G 4 cX7_moveAll RX7 am_tb P_X7_moveAll am_rV Q) {r : HP} : ∀ (n : Nat) (a1 : Int32) (a2 : Nat) (a3 : Int32) (h : HP), g_X7_moveAll_2 n a1 a2 a3 h = some r → am_W p l e R s m args below meth c cells slots G 4 (Q r) 2 [.inr (.inr (.inl (7, 0))), .inl a1, .inr (.inr (.inl (13, a2))), .inl a3] [] h := by
  intro n
  induction n with
  | zero =>
    intro a1 a2 a3 h q
    have q9 : (none : Option HP) = some r := q
    cases q9
  | succ n ih =>
    intro a1 a2 a3 h q
    exact am_run_ok CX ok_X7_moveAll (K := [(2, pk_X7_moveAll_2 (g_X7_moveAll_2 n))]) (am_K1 (Wp := am_W p l e R s m args below meth c cells slots G 4 (Q r)) (pk_X7_moveAll_2_ok (Wp := am_W p l e R s m args below meth c cells slots G 4 (Q r) 2) ih) am_K0) 18 2 _ _ _ q
set_option maxRecDepth 20000 in
theorem b_X7_moveAll (l : Launch) (G : AG) : am_B l G 4 cX7_moveAll RX7 am_tb P_X7_moveAll am_rV fl_X7_moveAll := by
  intro p e R s m args below meth c cells slots Q CX as h r q
  unfold fl_X7_moveAll at q
  split at q
  · exact am_run_ok CX ok_X7_moveAll (K := [(2, pk_X7_moveAll_2 (g_X7_moveAll_2 am_fu))]) (am_K1 (Wp := am_W p l e R s m args below meth c cells slots G 4 (Q r)) (pk_X7_moveAll_2_ok (Wp := am_W p l e R s m args below meth c cells slots G 4 (Q r) 2) (w_X7_moveAll_2 CX am_fu)) am_K0) 5 0 _ _ _ q
  · cases q
theorem s_X7_moveAll : ∀ as h x, fl_X7_moveAll as h = some x → (∀ k, (some 7 : Option Nat) = some k → ∃ (j : Nat) (as' : List AV), as = .inr (.inr (.inl (k, j))) :: as') ∧ (am_l0 as).length ≤ 4 := by
  intro as h x q
  unfold fl_X7_moveAll at q
  split at q
  · exact ⟨fun k e => by cases e; exact ⟨_, _, rfl⟩, Nat.le_of_ble_eq_true rfl⟩
  · cases q
theorem M_X7_moveAll (l : Launch) (G : AG) : am_M l G yX7_moveAll cX7_moveAll 4 none 0 0 (some 7) F_X7_moveAll := am_M_of (f := fl_X7_moveAll) (toR := fun x => (none, x)) (P := P_X7_moveAll) (Rr := am_rV) (own := RX7) (by decide) rfl (fun _ _ => rfl) s_X7_moveAll am_wrV am_rkV pf_RX7 pk_RX7 ps_RX7 (fun _ q => by cases q) (fun _ q => by cases q) (fun _ q => by cases q) (b_X7_moveAll l G)
theorem cv_RX7_159 (l : Launch) (G : AG) {fr lo : Nat} (h1 : 0 + 1 ≤ fr) (h2 : 8 + (4 + 11) + 0 ≤ lo) : am_cvOK l G RX7 fr lo (159, 3, F_X7_moveAll) := ⟨yX7_moveAll, cX7_moveAll, 4, none, 0, 0, 7, RX7, M_X7_moveAll l G, ⟨(am_tb_mem (wd_21 _ (List.mem_of_getElem? (i := 20) rfl))), (am_tb_mem (wd_21 _ (List.mem_of_getElem? (i := 21) rfl))), (am_tb_mem (wd_0 _ (List.mem_of_getElem? (i := 39) rfl))), (am_tb_mem (wd_1 _ (List.mem_of_getElem? (i := 26) rfl))), (am_tb_mem (wd_21 _ (List.mem_of_getElem? (i := 22) rfl)))⟩, ⟨rfl, by decide, by decide, by decide +kernel⟩, Or.inl ⟨by decide, rfl⟩, h1, h2⟩
def C_X7_on : List AC := [(0, .aload_n 0, 1, []), (1, .iload_n 1, 2, []), (2, .invokevirtual 111, 5, []), (5, .ifCond .eq 22, 8, [27]), (8, .iload_n 2, 9, []), (9, .iconst 0, 10, []), (10, .bipush 60, 12, []), (12, .invokestatic 42, 15, []), (15, .ifCond .eq 12, 18, [27]), (18, .iload_n 3, 19, []), (19, .iconst 0, 20, []), (20, .iconst 1, 21, []), (21, .invokestatic 42, 24, []), (24, .ifCond .ne 10, 27, [34]), (27, .aload_n 0, 28, []), (28, .ldc 41, 30, []), (30, .invokevirtual 78, 33, []), (33, .ireturn, 34, []), (34, .aload_n 0, 35, []), (35, .iconst 1, 36, []), (36, .aload_n 0, 37, []), (37, .getfield 16, 40, []), (40, .invokevirtual 159, 43, []), (43, .aload_n 0, 44, []), (44, .iload_n 2, 45, []), (45, .invokevirtual 137, 48, []), (48, .iload_n 3, 49, []), (49, .ifCond .ne 12, 52, [61]), (52, .aload_n 0, 53, []), (53, .iload_n 1, 54, []), (54, .iconst 1, 55, []), (55, .invokevirtual 108, 58, []), (58, .goto 8, 61, [66]), (61, .aload_n 0, 62, []), (62, .iload_n 1, 63, []), (63, .invokevirtual 156, 66, []), (66, .istore 4, 68, []), (68, .aload_n 0, 69, []), (69, .iconst 0, 70, []), (70, .aload_n 0, 71, []), (71, .getfield 16, 74, []), (74, .invokevirtual 159, 77, []), (77, .iload 4, 79, []), (79, .ireturn, 80, [])]
theorem ok_X7_on : ∀ x ∈ C_X7_on, am_ok cX7_on 5 x = true := by decide +kernel
noncomputable def P_X7_on : AP := (PF_RX7, PK_RX7, PS_RX7, [(78, 2, F_X7_finds), (108, 3, F_X7_whose), (111, 2, F_X7_isMember), (137, 2, F_X7_passes), (156, 2, F_X7_reachOf), (159, 3, F_X7_moveAll)], [(42, 3, F_X7_in)], [])
noncomputable def g_X7_on_66 (a1 : Int32) (h : HP) : Option (Int32 × HP) := (f_X7_moveAll 0 2 h).bind (fun q_1 => some (a1, q_1))
def pk_X7_on_66 (k : Int32 → HP → Option (Int32 × HP)) : List AV → List AV → HP → Option (Int32 × HP) := fun L st h => match L, st with
  | [.inr (.inr (.inl (7, 0))), .inl _, .inl _, .inl _, .inr (.inr (.inr ()))], [.inl a1] => k a1 h
  | _, _ => none
theorem pk_X7_on_66_ok {Wp : List AV → List AV → HP → Prop} {r : (Int32 × HP)} {k : Int32 → HP → Option (Int32 × HP)} (hk : ∀ (a1 : Int32) (w1 : Int32) (w2 : Int32) (w3 : Int32) (h : HP), k a1 h = some r → Wp [.inr (.inr (.inl (7, 0))), .inl w1, .inl w2, .inl w3, .inr (.inr (.inr ()))] [.inl a1] h) : ∀ L st h, pk_X7_on_66 k L st h = some r → Wp L st h := by
  intro L st h q
  unfold pk_X7_on_66 at q
  split at q
  · exact hk _ _ _ _ _ q
  · cases q
noncomputable def g_X7_on_27  (h : HP) : Option (Int32 × HP) := (f_X7_finds ((-1000000001)) h).bind (fun q_1 => some (q_1.1, q_1.2))
def pk_X7_on_27 (k : HP → Option (Int32 × HP)) : List AV → List AV → HP → Option (Int32 × HP) := fun L st h => match L, st with
  | [.inr (.inr (.inl (7, 0))), .inl _, .inl _, .inl _, .inr (.inr (.inr ()))], [] => k h
  | _, _ => none
theorem pk_X7_on_27_ok {Wp : List AV → List AV → HP → Prop} {r : (Int32 × HP)} {k : HP → Option (Int32 × HP)} (hk : ∀ (w1 : Int32) (w2 : Int32) (w3 : Int32) (h : HP), k h = some r → Wp [.inr (.inr (.inl (7, 0))), .inl w1, .inl w2, .inl w3, .inr (.inr (.inr ()))] [] h) : ∀ L st h, pk_X7_on_27 k L st h = some r → Wp L st h := by
  intro L st h q
  unfold pk_X7_on_27 at q
  split at q
  · exact hk _ _ _ _ q
  · cases q
noncomputable def f_X7_on (a1 : Int32) (a2 : Int32) (a3 : Int32) (h : HP) : Option (Int32 × HP) := (f_X7_isMember a1 h).bind (fun q_1 => if q_1.1 = (0 : Int32) then (g_X7_on_27 q_1.2) else ((f_X7_in a2 0 60 q_1.2).bind (fun q_2 => if q_2.1 = (0 : Int32) then (g_X7_on_27 q_2.2) else ((f_X7_in a3 0 1 q_2.2).bind (fun q_3 => if q_3.1 = (0 : Int32) then (g_X7_on_27 q_3.2) else ((f_X7_moveAll 1 2 q_3.2).bind (fun q_4 => (f_X7_passes a2 q_4).bind (fun q_5 => if a3 = (0 : Int32) then ((f_X7_whose a1 1 q_5).bind (fun q_7 => g_X7_on_66 q_7.1 q_7.2)) else ((f_X7_reachOf a1 q_5).bind (fun q_6 => g_X7_on_66 q_6.1 q_6.2))))))))))
noncomputable def fl_X7_on : List AV → HP → Option (Int32 × HP) := fun as h => match as with
  | [.inr (.inr (.inl (7, 0))), .inl a1, .inl a2, .inl a3] => f_X7_on a1 a2 a3 h
  | _ => none
noncomputable def F_X7_on : AF := .inl fl_X7_on
set_option maxRecDepth 20000 in
theorem w_X7_on_66 {p : Program} {l : Launch} {e : Env} {R : Room} {s : State} {m : MethodId} {args : Array Value} {below : List Frame} {meth : Method} {c : Code} {cells slots : Nat} {G : AG} {Q : (Int32 × HP) → State → Prop} (CX : am_X p l e R s m args below meth c cells slots G 5 cX7_on RX7 am_tb P_X7_on am_rI Q) {r : (Int32 × HP)} : ∀ (a1 : Int32) (w1 : Int32) (w2 : Int32) (w3 : Int32) (h : HP), g_X7_on_66 a1 h = some r → am_W p l e R s m args below meth c cells slots G 5 (Q r) 66 [.inr (.inr (.inl (7, 0))), .inl w1, .inl w2, .inl w3, .inr (.inr (.inr ()))] [.inl a1] h := by
  intro a1 w1 w2 w3 h q
  exact am_run_ok CX ok_X7_on (K := []) (am_K0 (Wp := am_W p l e R s m args below meth c cells slots G 5 (Q r))) 11 66 _ _ _ q
set_option maxRecDepth 20000 in
theorem w_X7_on_27 {p : Program} {l : Launch} {e : Env} {R : Room} {s : State} {m : MethodId} {args : Array Value} {below : List Frame} {meth : Method} {c : Code} {cells slots : Nat} {G : AG} {Q : (Int32 × HP) → State → Prop} (CX : am_X p l e R s m args below meth c cells slots G 5 cX7_on RX7 am_tb P_X7_on am_rI Q) {r : (Int32 × HP)} : ∀ (w1 : Int32) (w2 : Int32) (w3 : Int32) (h : HP), g_X7_on_27 h = some r → am_W p l e R s m args below meth c cells slots G 5 (Q r) 27 [.inr (.inr (.inl (7, 0))), .inl w1, .inl w2, .inl w3, .inr (.inr (.inr ()))] [] h := by
  intro w1 w2 w3 h q
  exact am_run_ok CX ok_X7_on (K := []) (am_K0 (Wp := am_W p l e R s m args below meth c cells slots G 5 (Q r))) 7 27 _ _ _ q
set_option maxRecDepth 20000 in
theorem b_X7_on (l : Launch) (G : AG) : am_B l G 5 cX7_on RX7 am_tb P_X7_on am_rI fl_X7_on := by
  intro p e R s m args below meth c cells slots Q CX as h r q
  unfold fl_X7_on at q
  split at q
  · exact am_run_ok CX ok_X7_on (K := [(27, pk_X7_on_27 (g_X7_on_27)), (66, pk_X7_on_66 (g_X7_on_66))]) (am_K1 (Wp := am_W p l e R s m args below meth c cells slots G 5 (Q r)) (pk_X7_on_27_ok (Wp := am_W p l e R s m args below meth c cells slots G 5 (Q r) 27) (w_X7_on_27 CX)) (am_K1 (Wp := am_W p l e R s m args below meth c cells slots G 5 (Q r)) (pk_X7_on_66_ok (Wp := am_W p l e R s m args below meth c cells slots G 5 (Q r) 66) (w_X7_on_66 CX)) am_K0)) 32 0 _ _ _ q
  · cases q
theorem s_X7_on : ∀ as h x, fl_X7_on as h = some x → (∀ k, (some 7 : Option Nat) = some k → ∃ (j : Nat) (as' : List AV), as = .inr (.inr (.inl (k, j))) :: as') ∧ (am_l0 as).length ≤ 5 := by
  intro as h x q
  unfold fl_X7_on at q
  split at q
  · exact ⟨fun k e => by cases e; exact ⟨_, _, rfl⟩, Nat.le_of_ble_eq_true rfl⟩
  · cases q
theorem M_X7_on (l : Launch) (G : AG) : am_M l G yX7_on cX7_on 5 (some .int) 7 160 (some 7) F_X7_on := am_M_of (f := fl_X7_on) (toR := fun x => (some (.inl x.1), x.2)) (P := P_X7_on) (Rr := am_rI) (own := RX7) (by decide) rfl (fun _ _ => rfl) s_X7_on am_wrI am_rkI pf_RX7 pk_RX7 ps_RX7 (List.forall_mem_cons.mpr ⟨cv_RX7_78 l G (by decide) (by decide), (List.forall_mem_cons.mpr ⟨cv_RX7_108 l G (by decide) (by decide), (List.forall_mem_cons.mpr ⟨cv_RX7_111 l G (by decide) (by decide), (List.forall_mem_cons.mpr ⟨cv_RX7_137 l G (by decide) (by decide), (List.forall_mem_cons.mpr ⟨cv_RX7_156 l G (by decide) (by decide), (List.forall_mem_cons.mpr ⟨cv_RX7_159 l G (by decide) (by decide), (fun _ q => by cases q)⟩)⟩)⟩)⟩)⟩)⟩) (List.forall_mem_cons.mpr ⟨cs_RX7_42 l G (by decide) (by decide), (fun _ q => by cases q)⟩) (fun _ q => by cases q) (b_X7_on l G)
def C_X7_late : List AC := [(0, .aload_n 0, 1, []), (1, .iload_n 1, 2, []), (2, .invokevirtual 86, 5, []), (5, .ifCond .ne 10, 8, [15]), (8, .aload_n 0, 9, []), (9, .ldc 41, 11, []), (11, .invokevirtual 78, 14, []), (14, .ireturn, 15, []), (15, .aload_n 0, 16, []), (16, .iconst 1, 17, []), (17, .aload_n 0, 18, []), (18, .getfield 16, 21, []), (21, .invokevirtual 159, 24, []), (24, .iconst 0, 25, []), (25, .istore_n 2, 26, []), (26, .iload_n 2, 27, []), (27, .bipush 60, 29, []), (29, .if_icmp .gt 21, 32, [50]), (32, .aload_n 0, 33, []), (33, .iload_n 1, 34, []), (34, .invokevirtual 50, 37, []), (37, .ifCond .ne 13, 40, [50]), (40, .aload_n 0, 41, []), (41, .invokevirtual 134, 44, []), (44, .iinc 2 1, 47, []), (47, .goto (-21), 50, [26]), (50, .aload_n 0, 51, []), (51, .iconst 0, 52, []), (52, .aload_n 0, 53, []), (53, .getfield 16, 56, []), (56, .invokevirtual 159, 59, []), (59, .iload_n 2, 60, []), (60, .bipush 60, 62, []), (62, .if_icmp .le 12, 65, [74]), (65, .aload_n 0, 66, []), (66, .ldc 100, 68, []), (68, .invokevirtual 78, 71, []), (71, .goto 4, 74, [75]), (74, .iload_n 2, 75, []), (75, .ireturn, 76, [])]
theorem ok_X7_late : ∀ x ∈ C_X7_late, am_ok cX7_late 3 x = true := by decide +kernel
noncomputable def P_X7_late : AP := (PF_RX7, PK_RX7, PS_RX7, [(50, 2, F_X7_isLate), (78, 2, F_X7_finds), (86, 2, F_X7_isOne), (134, 1, F_X7_oneDay), (159, 3, F_X7_moveAll)], [], [])
noncomputable def g_X7_late_50 (a1 : Int32) (h : HP) : Option (Int32 × HP) := (f_X7_moveAll 0 2 h).bind (fun q_1 => if a1 ≤ (60 : Int32) then (some (a1, q_1)) else ((f_X7_finds ((-1000000004)) q_1).bind (fun q_2 => some (q_2.1, q_2.2))))
def pk_X7_late_50 (k : Int32 → HP → Option (Int32 × HP)) : List AV → List AV → HP → Option (Int32 × HP) := fun L st h => match L, st with
  | [.inr (.inr (.inl (7, 0))), .inl _, .inl a1], [] => k a1 h
  | _, _ => none
theorem pk_X7_late_50_ok {Wp : List AV → List AV → HP → Prop} {r : (Int32 × HP)} {k : Int32 → HP → Option (Int32 × HP)} (hk : ∀ (a1 : Int32) (w1 : Int32) (h : HP), k a1 h = some r → Wp [.inr (.inr (.inl (7, 0))), .inl w1, .inl a1] [] h) : ∀ L st h, pk_X7_late_50 k L st h = some r → Wp L st h := by
  intro L st h q
  unfold pk_X7_late_50 at q
  split at q
  · exact hk _ _ _ q
  · cases q
noncomputable def g_X7_late_26  : Nat → Int32 → Int32 → HP → Option (Int32 × HP)
  | 0, _, _, _ => none
  | n + 1, a1, a2, h => if (60 : Int32) < a2 then (g_X7_late_50 a2 h) else ((f_X7_isLate a1 h).bind (fun q_1 => if q_1.1 = (0 : Int32) then ((f_X7_oneDay q_1.2).bind (fun q_2 => g_X7_late_26 n a1 (a2 + 1) q_2)) else (g_X7_late_50 a2 q_1.2)))
def pk_X7_late_26 (k : Int32 → Int32 → HP → Option (Int32 × HP)) : List AV → List AV → HP → Option (Int32 × HP) := fun L st h => match L, st with
  | [.inr (.inr (.inl (7, 0))), .inl a1, .inl a2], [] => k a1 a2 h
  | _, _ => none
theorem pk_X7_late_26_ok {Wp : List AV → List AV → HP → Prop} {r : (Int32 × HP)} {k : Int32 → Int32 → HP → Option (Int32 × HP)} (hk : ∀ (a1 : Int32) (a2 : Int32) (h : HP), k a1 a2 h = some r → Wp [.inr (.inr (.inl (7, 0))), .inl a1, .inl a2] [] h) : ∀ L st h, pk_X7_late_26 k L st h = some r → Wp L st h := by
  intro L st h q
  unfold pk_X7_late_26 at q
  split at q
  · exact hk _ _ _ q
  · cases q
noncomputable def f_X7_late (a1 : Int32) (h : HP) : Option (Int32 × HP) := (f_X7_isOne a1 h).bind (fun q_1 => if q_1.1 = (0 : Int32) then ((f_X7_finds ((-1000000001)) q_1.2).bind (fun q_3 => some (q_3.1, q_3.2))) else ((f_X7_moveAll 1 2 q_1.2).bind (fun q_2 => g_X7_late_26 am_fu a1 0 q_2)))
noncomputable def fl_X7_late : List AV → HP → Option (Int32 × HP) := fun as h => match as with
  | [.inr (.inr (.inl (7, 0))), .inl a1] => f_X7_late a1 h
  | _ => none
noncomputable def F_X7_late : AF := .inl fl_X7_late
set_option maxRecDepth 20000 in
theorem w_X7_late_50 {p : Program} {l : Launch} {e : Env} {R : Room} {s : State} {m : MethodId} {args : Array Value} {below : List Frame} {meth : Method} {c : Code} {cells slots : Nat} {G : AG} {Q : (Int32 × HP) → State → Prop} (CX : am_X p l e R s m args below meth c cells slots G 3 cX7_late RX7 am_tb P_X7_late am_rI Q) {r : (Int32 × HP)} : ∀ (a1 : Int32) (w1 : Int32) (h : HP), g_X7_late_50 a1 h = some r → am_W p l e R s m args below meth c cells slots G 3 (Q r) 50 [.inr (.inr (.inl (7, 0))), .inl w1, .inl a1] [] h := by
  intro a1 w1 h q
  exact am_run_ok CX ok_X7_late (K := []) (am_K0 (Wp := am_W p l e R s m args below meth c cells slots G 3 (Q r))) 16 50 _ _ _ q
set_option maxRecDepth 20000 in
theorem w_X7_late_26 {p : Program} {l : Launch} {e : Env} {R : Room} {s : State} {m : MethodId} {args : Array Value} {below : List Frame} {meth : Method} {c : Code} {cells slots : Nat} {G : AG} {Q : (Int32 × HP) → State → Prop} (CX : am_X p l e R s m args below meth c cells slots G 3 cX7_late RX7 am_tb P_X7_late am_rI Q) {r : (Int32 × HP)} : ∀ (n : Nat) (a1 : Int32) (a2 : Int32) (h : HP), g_X7_late_26 n a1 a2 h = some r → am_W p l e R s m args below meth c cells slots G 3 (Q r) 26 [.inr (.inr (.inl (7, 0))), .inl a1, .inl a2] [] h := by
  intro n
  induction n with
  | zero =>
    intro a1 a2 h q
    have q9 : (none : Option (Int32 × HP)) = some r := q
    cases q9
  | succ n ih =>
    intro a1 a2 h q
    exact am_run_ok CX ok_X7_late (K := [(50, pk_X7_late_50 (g_X7_late_50)), (26, pk_X7_late_26 (g_X7_late_26 n))]) (am_K1 (Wp := am_W p l e R s m args below meth c cells slots G 3 (Q r)) (pk_X7_late_50_ok (Wp := am_W p l e R s m args below meth c cells slots G 3 (Q r) 50) (w_X7_late_50 CX)) (am_K1 (Wp := am_W p l e R s m args below meth c cells slots G 3 (Q r)) (pk_X7_late_26_ok (Wp := am_W p l e R s m args below meth c cells slots G 3 (Q r) 26) ih) am_K0)) 14 26 _ _ _ q
set_option maxRecDepth 20000 in
theorem b_X7_late (l : Launch) (G : AG) : am_B l G 3 cX7_late RX7 am_tb P_X7_late am_rI fl_X7_late := by
  intro p e R s m args below meth c cells slots Q CX as h r q
  unfold fl_X7_late at q
  split at q
  · exact am_run_ok CX ok_X7_late (K := [(26, pk_X7_late_26 (g_X7_late_26 am_fu))]) (am_K1 (Wp := am_W p l e R s m args below meth c cells slots G 3 (Q r)) (pk_X7_late_26_ok (Wp := am_W p l e R s m args below meth c cells slots G 3 (Q r) 26) (w_X7_late_26 CX am_fu)) am_K0) 14 0 _ _ _ q
  · cases q
theorem s_X7_late : ∀ as h x, fl_X7_late as h = some x → (∀ k, (some 7 : Option Nat) = some k → ∃ (j : Nat) (as' : List AV), as = .inr (.inr (.inl (k, j))) :: as') ∧ (am_l0 as).length ≤ 3 := by
  intro as h x q
  unfold fl_X7_late at q
  split at q
  · exact ⟨fun k e => by cases e; exact ⟨_, _, rfl⟩, Nat.le_of_ble_eq_true rfl⟩
  · cases q
theorem M_X7_late (l : Launch) (G : AG) : am_M l G yX7_late cX7_late 3 (some .int) 3 65 (some 7) F_X7_late := am_M_of (f := fl_X7_late) (toR := fun x => (some (.inl x.1), x.2)) (P := P_X7_late) (Rr := am_rI) (own := RX7) (by decide) rfl (fun _ _ => rfl) s_X7_late am_wrI am_rkI pf_RX7 pk_RX7 ps_RX7 (List.forall_mem_cons.mpr ⟨cv_RX7_50 l G (by decide) (by decide), (List.forall_mem_cons.mpr ⟨cv_RX7_78 l G (by decide) (by decide), (List.forall_mem_cons.mpr ⟨cv_RX7_86 l G (by decide) (by decide), (List.forall_mem_cons.mpr ⟨cv_RX7_134 l G (by decide) (by decide), (List.forall_mem_cons.mpr ⟨cv_RX7_159 l G (by decide) (by decide), (fun _ q => by cases q)⟩)⟩)⟩)⟩)⟩) (fun _ q => by cases q) (fun _ q => by cases q) (b_X7_late l G)
def C_X7_reach : List AC := [(0, .aload_n 0, 1, []), (1, .iload_n 1, 2, []), (2, .invokevirtual 111, 5, []), (5, .ifCond .eq 11, 8, [16]), (8, .aload_n 0, 9, []), (9, .iload_n 1, 10, []), (10, .invokevirtual 156, 13, []), (13, .goto 9, 16, [22]), (16, .aload_n 0, 17, []), (17, .ldc 41, 19, []), (19, .invokevirtual 78, 22, []), (22, .ireturn, 23, [])]
theorem ok_X7_reach : ∀ x ∈ C_X7_reach, am_ok cX7_reach 2 x = true := by decide +kernel
noncomputable def P_X7_reach : AP := (PF_RX7, PK_RX7, PS_RX7, [(78, 2, F_X7_finds), (111, 2, F_X7_isMember), (156, 2, F_X7_reachOf)], [], [])
noncomputable def f_X7_reach (a1 : Int32) (h : HP) : Option (Int32 × HP) := (f_X7_isMember a1 h).bind (fun q_1 => if q_1.1 = (0 : Int32) then ((f_X7_finds ((-1000000001)) q_1.2).bind (fun q_2 => some (q_2.1, q_2.2))) else ((f_X7_reachOf a1 q_1.2).bind (fun q_3 => some (q_3.1, q_3.2))))
noncomputable def fl_X7_reach : List AV → HP → Option (Int32 × HP) := fun as h => match as with
  | [.inr (.inr (.inl (7, 0))), .inl a1] => f_X7_reach a1 h
  | _ => none
noncomputable def F_X7_reach : AF := .inl fl_X7_reach
set_option maxRecDepth 20000 in
theorem b_X7_reach (l : Launch) (G : AG) : am_B l G 2 cX7_reach RX7 am_tb P_X7_reach am_rI fl_X7_reach := by
  intro p e R s m args below meth c cells slots Q CX as h r q
  unfold fl_X7_reach at q
  split at q
  · exact am_run_ok CX ok_X7_reach (K := []) (am_K0 (Wp := am_W p l e R s m args below meth c cells slots G 2 (Q r))) 12 0 _ _ _ q
  · cases q
theorem s_X7_reach : ∀ as h x, fl_X7_reach as h = some x → (∀ k, (some 7 : Option Nat) = some k → ∃ (j : Nat) (as' : List AV), as = .inr (.inr (.inl (k, j))) :: as') ∧ (am_l0 as).length ≤ 2 := by
  intro as h x q
  unfold fl_X7_reach at q
  split at q
  · exact ⟨fun k e => by cases e; exact ⟨_, _, rfl⟩, Nat.le_of_ble_eq_true rfl⟩
  · cases q
theorem M_X7_reach (l : Launch) (G : AG) : am_M l G yX7_reach cX7_reach 2 (some .int) 7 160 (some 7) F_X7_reach := am_M_of (f := fl_X7_reach) (toR := fun x => (some (.inl x.1), x.2)) (P := P_X7_reach) (Rr := am_rI) (own := RX7) (by decide) rfl (fun _ _ => rfl) s_X7_reach am_wrI am_rkI pf_RX7 pk_RX7 ps_RX7 (List.forall_mem_cons.mpr ⟨cv_RX7_78 l G (by decide) (by decide), (List.forall_mem_cons.mpr ⟨cv_RX7_111 l G (by decide) (by decide), (List.forall_mem_cons.mpr ⟨cv_RX7_156 l G (by decide) (by decide), (fun _ q => by cases q)⟩)⟩)⟩) (fun _ q => by cases q) (fun _ q => by cases q) (b_X7_reach l G)
def C_X7_far : List AC := [(0, .iconst 1, 1, []), (1, .iload_n 2, 2, []), (2, .ishl, 3, []), (3, .istore 4, 5, []), (5, .iconst 0, 6, []), (6, .istore 5, 8, []), (8, .iconst 1, 9, []), (9, .istore 6, 11, []), (11, .iload 6, 13, []), (13, .ifCond .eq 45, 16, [58]), (16, .iload 4, 18, []), (18, .iload_n 3, 19, []), (19, .ishr, 20, []), (20, .iconst 1, 21, []), (21, .iand, 22, []), (22, .ifCond .ne 36, 25, [58]), (25, .aload_n 0, 26, []), (26, .iload_n 1, 27, []), (27, .iload 4, 29, []), (29, .invokevirtual 153, 32, []), (32, .istore 7, 34, []), (34, .iload 7, 36, []), (36, .iload 4, 38, []), (38, .if_icmp .eq 7, 41, [45]), (41, .iconst 1, 42, []), (42, .goto 4, 45, [46]), (45, .iconst 0, 46, []), (46, .istore 6, 48, []), (48, .iload 7, 50, []), (50, .istore 4, 52, []), (52, .iinc 5 1, 55, []), (55, .goto (-44), 58, [11]), (58, .iload 4, 60, []), (60, .iload_n 3, 61, []), (61, .ishr, 62, []), (62, .iconst 1, 63, []), (63, .iand, 64, []), (64, .iconst 1, 65, []), (65, .if_icmp .ne 8, 68, [73]), (68, .iload 5, 70, []), (70, .goto 4, 73, [74]), (73, .iconst (-1), 74, []), (74, .ireturn, 75, [])]
theorem ok_X7_far : ∀ x ∈ C_X7_far, am_ok cX7_far 8 x = true := by decide +kernel
noncomputable def P_X7_far : AP := (PF_RX7, PK_RX7, PS_RX7, [(153, 3, F_X7_oneMore)], [], [])
noncomputable def g_X7_far_58 (a1 : Int32) (a2 : Int32) (a3 : Int32) (h : HP) : Option (Int32 × HP) := if (a2 >>> (a1 &&& 31)) &&& 1 = (1 : Int32) then (some (a3, h)) else (some ((-1), h))
def pk_X7_far_58 (k : Int32 → Int32 → Int32 → HP → Option (Int32 × HP)) : List AV → List AV → HP → Option (Int32 × HP) := fun L st h => match L, st with
  | [.inr (.inr (.inl (7, 0))), .inl _, .inl _, .inl a1, .inl a2, .inl a3, .inl _, _], [] => k a1 a2 a3 h
  | _, _ => none
theorem pk_X7_far_58_ok {Wp : List AV → List AV → HP → Prop} {r : (Int32 × HP)} {k : Int32 → Int32 → Int32 → HP → Option (Int32 × HP)} (hk : ∀ (a1 : Int32) (a2 : Int32) (a3 : Int32) (w1 : Int32) (w2 : Int32) (w3 : Int32) (w4 : AV) (h : HP), k a1 a2 a3 h = some r → Wp [.inr (.inr (.inl (7, 0))), .inl w1, .inl w2, .inl a1, .inl a2, .inl a3, .inl w3, w4] [] h) : ∀ L st h, pk_X7_far_58 k L st h = some r → Wp L st h := by
  intro L st h q
  unfold pk_X7_far_58 at q
  split at q
  · exact hk _ _ _ _ _ _ _ _ q
  · cases q
noncomputable def g_X7_far_11  : Nat → Int32 → Int32 → Int32 → Int32 → Int32 → HP → Option (Int32 × HP)
  | 0, _, _, _, _, _, _ => none
  | n + 1, a1, a2, a3, a4, a5, h => if a5 = (0 : Int32) then (g_X7_far_58 a2 a3 a4 h) else (if (a3 >>> (a2 &&& 31)) &&& 1 = (0 : Int32) then ((f_X7_oneMore a1 a3 h).bind (fun q_1 => if q_1.1 = a3 then (g_X7_far_11 n a1 a2 q_1.1 (a4 + 1) 0 q_1.2) else (g_X7_far_11 n a1 a2 q_1.1 (a4 + 1) 1 q_1.2))) else (g_X7_far_58 a2 a3 a4 h))
def pk_X7_far_11 (k : Int32 → Int32 → Int32 → Int32 → Int32 → HP → Option (Int32 × HP)) : List AV → List AV → HP → Option (Int32 × HP) := fun L st h => match L, st with
  | [.inr (.inr (.inl (7, 0))), .inl a1, .inl _, .inl a2, .inl a3, .inl a4, .inl a5, _], [] => k a1 a2 a3 a4 a5 h
  | _, _ => none
theorem pk_X7_far_11_ok {Wp : List AV → List AV → HP → Prop} {r : (Int32 × HP)} {k : Int32 → Int32 → Int32 → Int32 → Int32 → HP → Option (Int32 × HP)} (hk : ∀ (a1 : Int32) (a2 : Int32) (a3 : Int32) (a4 : Int32) (a5 : Int32) (w1 : Int32) (w2 : AV) (h : HP), k a1 a2 a3 a4 a5 h = some r → Wp [.inr (.inr (.inl (7, 0))), .inl a1, .inl w1, .inl a2, .inl a3, .inl a4, .inl a5, w2] [] h) : ∀ L st h, pk_X7_far_11 k L st h = some r → Wp L st h := by
  intro L st h q
  unfold pk_X7_far_11 at q
  split at q
  · exact hk _ _ _ _ _ _ _ _ q
  · cases q
noncomputable def f_X7_far (a1 : Int32) (a2 : Int32) (a3 : Int32) (h : HP) : Option (Int32 × HP) := g_X7_far_11 am_fu a1 a3 (1 <<< (a2 &&& 31)) 0 1 h
noncomputable def fl_X7_far : List AV → HP → Option (Int32 × HP) := fun as h => match as with
  | [.inr (.inr (.inl (7, 0))), .inl a1, .inl a2, .inl a3] => f_X7_far a1 a2 a3 h
  | _ => none
noncomputable def F_X7_far : AF := .inl fl_X7_far
set_option maxRecDepth 20000 in
theorem w_X7_far_58 {p : Program} {l : Launch} {e : Env} {R : Room} {s : State} {m : MethodId} {args : Array Value} {below : List Frame} {meth : Method} {c : Code} {cells slots : Nat} {G : AG} {Q : (Int32 × HP) → State → Prop} (CX : am_X p l e R s m args below meth c cells slots G 8 cX7_far RX7 am_tb P_X7_far am_rI Q) {r : (Int32 × HP)} : ∀ (a1 : Int32) (a2 : Int32) (a3 : Int32) (w1 : Int32) (w2 : Int32) (w3 : Int32) (w4 : AV) (h : HP), g_X7_far_58 a1 a2 a3 h = some r → am_W p l e R s m args below meth c cells slots G 8 (Q r) 58 [.inr (.inr (.inl (7, 0))), .inl w1, .inl w2, .inl a1, .inl a2, .inl a3, .inl w3, w4] [] h := by
  intro a1 a2 a3 w1 w2 w3 w4 h q
  exact am_run_ok CX ok_X7_far (K := []) (am_K0 (Wp := am_W p l e R s m args below meth c cells slots G 8 (Q r))) 13 58 _ _ _ q
set_option maxRecDepth 20000 in
theorem w_X7_far_11 {p : Program} {l : Launch} {e : Env} {R : Room} {s : State} {m : MethodId} {args : Array Value} {below : List Frame} {meth : Method} {c : Code} {cells slots : Nat} {G : AG} {Q : (Int32 × HP) → State → Prop} (CX : am_X p l e R s m args below meth c cells slots G 8 cX7_far RX7 am_tb P_X7_far am_rI Q) {r : (Int32 × HP)} : ∀ (n : Nat) (a1 : Int32) (a2 : Int32) (a3 : Int32) (a4 : Int32) (a5 : Int32) (w1 : Int32) (w2 : AV) (h : HP), g_X7_far_11 n a1 a2 a3 a4 a5 h = some r → am_W p l e R s m args below meth c cells slots G 8 (Q r) 11 [.inr (.inr (.inl (7, 0))), .inl a1, .inl w1, .inl a2, .inl a3, .inl a4, .inl a5, w2] [] h := by
  intro n
  induction n with
  | zero =>
    intro a1 a2 a3 a4 a5 w1 w2 h q
    have q9 : (none : Option (Int32 × HP)) = some r := q
    cases q9
  | succ n ih =>
    intro a1 a2 a3 a4 a5 w1 w2 h q
    exact am_run_ok CX ok_X7_far (K := [(58, pk_X7_far_58 (g_X7_far_58)), (11, pk_X7_far_11 (g_X7_far_11 n))]) (am_K1 (Wp := am_W p l e R s m args below meth c cells slots G 8 (Q r)) (pk_X7_far_58_ok (Wp := am_W p l e R s m args below meth c cells slots G 8 (Q r) 58) (w_X7_far_58 CX)) (am_K1 (Wp := am_W p l e R s m args below meth c cells slots G 8 (Q r)) (pk_X7_far_11_ok (Wp := am_W p l e R s m args below meth c cells slots G 8 (Q r) 11) ih) am_K0)) 26 11 _ _ _ q
set_option maxRecDepth 20000 in
theorem b_X7_far (l : Launch) (G : AG) : am_B l G 8 cX7_far RX7 am_tb P_X7_far am_rI fl_X7_far := by
  intro p e R s m args below meth c cells slots Q CX as h r q
  unfold fl_X7_far at q
  split at q
  · exact am_run_ok CX ok_X7_far (K := [(11, pk_X7_far_11 (g_X7_far_11 am_fu))]) (am_K1 (Wp := am_W p l e R s m args below meth c cells slots G 8 (Q r)) (pk_X7_far_11_ok (Wp := am_W p l e R s m args below meth c cells slots G 8 (Q r) 11) (w_X7_far_11 CX am_fu)) am_K0) 11 0 _ _ _ q
  · cases q
theorem s_X7_far : ∀ as h x, fl_X7_far as h = some x → (∀ k, (some 7 : Option Nat) = some k → ∃ (j : Nat) (as' : List AV), as = .inr (.inr (.inl (k, j))) :: as') ∧ (am_l0 as).length ≤ 8 := by
  intro as h x q
  unfold fl_X7_far at q
  split at q
  · exact ⟨fun k e => by cases e; exact ⟨_, _, rfl⟩, Nat.le_of_ble_eq_true rfl⟩
  · cases q
theorem M_X7_far (l : Launch) (G : AG) : am_M l G yX7_far cX7_far 8 (some .int) 6 137 (some 7) F_X7_far := am_M_of (f := fl_X7_far) (toR := fun x => (some (.inl x.1), x.2)) (P := P_X7_far) (Rr := am_rI) (own := RX7) (by decide) rfl (fun _ _ => rfl) s_X7_far am_wrI am_rkI pf_RX7 pk_RX7 ps_RX7 (List.forall_mem_cons.mpr ⟨cv_RX7_153 l G (by decide) (by decide), (fun _ q => by cases q)⟩) (fun _ q => by cases q) (fun _ q => by cases q) (b_X7_far l G)
theorem cv_RX7_163 (l : Launch) (G : AG) {fr lo : Nat} (h1 : 6 + 1 ≤ fr) (h2 : 8 + (8 + 11) + 137 ≤ lo) : am_cvOK l G RX7 fr lo (163, 4, F_X7_far) := ⟨yX7_far, cX7_far, 8, (some .int), 6, 137, 7, RX7, M_X7_far l G, ⟨(am_tb_mem (wd_22 _ (List.mem_of_getElem? (i := 1) rfl))), (am_tb_mem (wd_22 _ (List.mem_of_getElem? (i := 2) rfl))), (am_tb_mem (wd_1 _ (List.mem_of_getElem? (i := 2) rfl))), (am_tb_mem (wd_1 _ (List.mem_of_getElem? (i := 26) rfl))), (am_tb_mem (wd_22 _ (List.mem_of_getElem? (i := 3) rfl)))⟩, ⟨rfl, by decide, by decide, by decide +kernel⟩, Or.inl ⟨by decide, rfl⟩, h1, h2⟩
def C_X7_way : List AC := [(0, .aload_n 0, 1, []), (1, .iload_n 1, 2, []), (2, .invokevirtual 111, 5, []), (5, .ifCond .eq 10, 8, [15]), (8, .iload_n 2, 9, []), (9, .invokestatic 75, 12, []), (12, .ifCond .ne 10, 15, [22]), (15, .aload_n 0, 16, []), (16, .ldc 41, 18, []), (18, .invokevirtual 78, 21, []), (21, .ireturn, 22, []), (22, .aload_n 0, 23, []), (23, .iload_n 1, 24, []), (24, .aload_n 0, 25, []), (25, .iload_n 1, 26, []), (26, .iconst 0, 27, []), (27, .invokevirtual 108, 30, []), (30, .iload_n 2, 31, []), (31, .invokevirtual 163, 34, []), (34, .istore_n 3, 35, []), (35, .iload_n 3, 36, []), (36, .ifCond .ge 12, 39, [48]), (39, .aload_n 0, 40, []), (40, .ldc 100, 42, []), (42, .invokevirtual 78, 45, []), (45, .goto 4, 48, [49]), (48, .iload_n 3, 49, []), (49, .ireturn, 50, [])]
theorem ok_X7_way : ∀ x ∈ C_X7_way, am_ok cX7_way 4 x = true := by decide +kernel
noncomputable def P_X7_way : AP := (PF_RX7, PK_RX7, PS_RX7, [(78, 2, F_X7_finds), (108, 3, F_X7_whose), (111, 2, F_X7_isMember), (163, 4, F_X7_far)], [(75, 1, F_X7_isRoom)], [])
noncomputable def g_X7_way_15  (h : HP) : Option (Int32 × HP) := (f_X7_finds ((-1000000001)) h).bind (fun q_1 => some (q_1.1, q_1.2))
def pk_X7_way_15 (k : HP → Option (Int32 × HP)) : List AV → List AV → HP → Option (Int32 × HP) := fun L st h => match L, st with
  | [.inr (.inr (.inl (7, 0))), .inl _, .inl _, .inr (.inr (.inr ()))], [] => k h
  | _, _ => none
theorem pk_X7_way_15_ok {Wp : List AV → List AV → HP → Prop} {r : (Int32 × HP)} {k : HP → Option (Int32 × HP)} (hk : ∀ (w1 : Int32) (w2 : Int32) (h : HP), k h = some r → Wp [.inr (.inr (.inl (7, 0))), .inl w1, .inl w2, .inr (.inr (.inr ()))] [] h) : ∀ L st h, pk_X7_way_15 k L st h = some r → Wp L st h := by
  intro L st h q
  unfold pk_X7_way_15 at q
  split at q
  · exact hk _ _ _ q
  · cases q
noncomputable def f_X7_way (a1 : Int32) (a2 : Int32) (h : HP) : Option (Int32 × HP) := (f_X7_isMember a1 h).bind (fun q_1 => if q_1.1 = (0 : Int32) then (g_X7_way_15 q_1.2) else ((f_X7_isRoom a2 q_1.2).bind (fun q_2 => if q_2.1 = (0 : Int32) then (g_X7_way_15 q_2.2) else ((f_X7_whose a1 0 q_2.2).bind (fun q_3 => (f_X7_far a1 q_3.1 a2 q_3.2).bind (fun q_4 => if (0 : Int32) ≤ q_4.1 then (some (q_4.1, q_4.2)) else ((f_X7_finds ((-1000000004)) q_4.2).bind (fun q_5 => some (q_5.1, q_5.2)))))))))
noncomputable def fl_X7_way : List AV → HP → Option (Int32 × HP) := fun as h => match as with
  | [.inr (.inr (.inl (7, 0))), .inl a1, .inl a2] => f_X7_way a1 a2 h
  | _ => none
noncomputable def F_X7_way : AF := .inl fl_X7_way
set_option maxRecDepth 20000 in
theorem w_X7_way_15 {p : Program} {l : Launch} {e : Env} {R : Room} {s : State} {m : MethodId} {args : Array Value} {below : List Frame} {meth : Method} {c : Code} {cells slots : Nat} {G : AG} {Q : (Int32 × HP) → State → Prop} (CX : am_X p l e R s m args below meth c cells slots G 4 cX7_way RX7 am_tb P_X7_way am_rI Q) {r : (Int32 × HP)} : ∀ (w1 : Int32) (w2 : Int32) (h : HP), g_X7_way_15 h = some r → am_W p l e R s m args below meth c cells slots G 4 (Q r) 15 [.inr (.inr (.inl (7, 0))), .inl w1, .inl w2, .inr (.inr (.inr ()))] [] h := by
  intro w1 w2 h q
  exact am_run_ok CX ok_X7_way (K := []) (am_K0 (Wp := am_W p l e R s m args below meth c cells slots G 4 (Q r))) 7 15 _ _ _ q
set_option maxRecDepth 20000 in
theorem b_X7_way (l : Launch) (G : AG) : am_B l G 4 cX7_way RX7 am_tb P_X7_way am_rI fl_X7_way := by
  intro p e R s m args below meth c cells slots Q CX as h r q
  unfold fl_X7_way at q
  split at q
  · exact am_run_ok CX ok_X7_way (K := [(15, pk_X7_way_15 (g_X7_way_15))]) (am_K1 (Wp := am_W p l e R s m args below meth c cells slots G 4 (Q r)) (pk_X7_way_15_ok (Wp := am_W p l e R s m args below meth c cells slots G 4 (Q r) 15) (w_X7_way_15 CX)) am_K0) 26 0 _ _ _ q
  · cases q
theorem s_X7_way : ∀ as h x, fl_X7_way as h = some x → (∀ k, (some 7 : Option Nat) = some k → ∃ (j : Nat) (as' : List AV), as = .inr (.inr (.inl (k, j))) :: as') ∧ (am_l0 as).length ≤ 4 := by
  intro as h x q
  unfold fl_X7_way at q
  split at q
  · exact ⟨fun k e => by cases e; exact ⟨_, _, rfl⟩, Nat.le_of_ble_eq_true rfl⟩
  · cases q
theorem M_X7_way (l : Launch) (G : AG) : am_M l G yX7_way cX7_way 4 (some .int) 7 164 (some 7) F_X7_way := am_M_of (f := fl_X7_way) (toR := fun x => (some (.inl x.1), x.2)) (P := P_X7_way) (Rr := am_rI) (own := RX7) (by decide) rfl (fun _ _ => rfl) s_X7_way am_wrI am_rkI pf_RX7 pk_RX7 ps_RX7 (List.forall_mem_cons.mpr ⟨cv_RX7_78 l G (by decide) (by decide), (List.forall_mem_cons.mpr ⟨cv_RX7_108 l G (by decide) (by decide), (List.forall_mem_cons.mpr ⟨cv_RX7_111 l G (by decide) (by decide), (List.forall_mem_cons.mpr ⟨cv_RX7_163 l G (by decide) (by decide), (fun _ q => by cases q)⟩)⟩)⟩)⟩) (List.forall_mem_cons.mpr ⟨cs_RX7_75 l G (by decide) (by decide), (fun _ q => by cases q)⟩) (fun _ q => by cases q) (b_X7_way l G)
def C_X7_next : List AC := [(0, .aload_n 0, 1, []), (1, .iload_n 1, 2, []), (2, .invokevirtual 111, 5, []), (5, .ifCond .eq 10, 8, [15]), (8, .iload_n 2, 9, []), (9, .invokestatic 75, 12, []), (12, .ifCond .ne 10, 15, [22]), (15, .aload_n 0, 16, []), (16, .ldc 41, 18, []), (18, .invokevirtual 78, 21, []), (21, .ireturn, 22, []), (22, .aload_n 0, 23, []), (23, .iload_n 1, 24, []), (24, .iconst 0, 25, []), (25, .invokevirtual 108, 28, []), (28, .istore_n 3, 29, []), (29, .iload_n 3, 30, []), (30, .iload_n 2, 31, []), (31, .if_icmp .ne 10, 34, [41]), (34, .aload_n 0, 35, []), (35, .ldc 126, 37, []), (37, .invokevirtual 78, 40, []), (40, .ireturn, 41, []), (41, .aload_n 0, 42, []), (42, .iload_n 1, 43, []), (43, .iload_n 3, 44, []), (44, .iload_n 2, 45, []), (45, .invokevirtual 163, 48, []), (48, .istore 4, 50, []), (50, .iload 4, 52, []), (52, .ifCond .ge 10, 55, [62]), (55, .aload_n 0, 56, []), (56, .ldc 100, 58, []), (58, .invokevirtual 78, 61, []), (61, .ireturn, 62, []), (62, .iconst (-1), 63, []), (63, .istore 5, 65, []), (65, .aload_n 0, 66, []), (66, .getfield 7, 69, []), (69, .iconst 2, 70, []), (70, .iaload, 71, []), (71, .iconst 1, 72, []), (72, .isub, 73, []), (73, .istore 6, 75, []), (75, .iload 6, 77, []), (77, .ifCond .lt 59, 80, [136]), (80, .aload_n 0, 81, []), (81, .iload 6, 83, []), (83, .iconst 4, 84, []), (84, .invokevirtual 46, 87, []), (87, .iload_n 1, 88, []), (88, .if_icmp .ne 42, 91, [130]), (91, .aload_n 0, 92, []), (92, .iload 6, 94, []), (94, .iload_n 3, 95, []), (95, .invokevirtual 93, 98, []), (98, .ifCond .eq 32, 101, [130]), (101, .aload_n 0, 102, []), (102, .iload_n 1, 103, []), (103, .aload_n 0, 104, []), (104, .iload 6, 106, []), (106, .iload_n 3, 107, []), (107, .invokevirtual 97, 110, []), (110, .iload_n 2, 111, []), (111, .invokevirtual 163, 114, []), (114, .iload 4, 116, []), (116, .iconst 1, 117, []), (117, .isub, 118, []), (118, .if_icmp .ne 8, 121, [126]), (121, .iload 6, 123, []), (123, .goto 5, 126, [128]), (126, .iload 5, 128, []), (128, .istore 5, 130, []), (130, .iinc 6 (-1), 133, []), (133, .goto (-58), 136, [75]), (136, .iload 5, 138, []), (138, .ireturn, 139, [])]
theorem ok_X7_next : ∀ x ∈ C_X7_next, am_ok cX7_next 7 x = true := by decide +kernel
noncomputable def P_X7_next : AP := (PF_RX7, PK_RX7, PS_RX7, [(46, 3, F_X7_its), (78, 2, F_X7_finds), (93, 3, F_X7_opens), (97, 3, F_X7_leadsTo), (108, 3, F_X7_whose), (111, 2, F_X7_isMember), (163, 4, F_X7_far)], [(75, 1, F_X7_isRoom)], [])
noncomputable def g_X7_next_75  : Nat → Int32 → Int32 → Int32 → Int32 → Int32 → Int32 → HP → Option (Int32 × HP)
  | 0, _, _, _, _, _, _, _ => none
  | n + 1, a1, a2, a3, a4, a5, a6, h => if a6 < (0 : Int32) then (some (a5, h)) else ((f_X7_its a6 4 h).bind (fun q_1 => if q_1.1 = a1 then ((f_X7_opens a6 a3 q_1.2).bind (fun q_2 => if q_2.1 = (0 : Int32) then (g_X7_next_75 n a1 a2 a3 a4 a5 (a6 + (-1)) q_2.2) else ((f_X7_leadsTo a6 a3 q_2.2).bind (fun q_3 => (f_X7_far a1 q_3.1 a2 q_3.2).bind (fun q_4 => if q_4.1 = a4 - 1 then (g_X7_next_75 n a1 a2 a3 a4 a6 (a6 + (-1)) q_4.2) else (g_X7_next_75 n a1 a2 a3 a4 a5 (a6 + (-1)) q_4.2)))))) else (g_X7_next_75 n a1 a2 a3 a4 a5 (a6 + (-1)) q_1.2)))
def pk_X7_next_75 (k : Int32 → Int32 → Int32 → Int32 → Int32 → Int32 → HP → Option (Int32 × HP)) : List AV → List AV → HP → Option (Int32 × HP) := fun L st h => match L, st with
  | [.inr (.inr (.inl (7, 0))), .inl a1, .inl a2, .inl a3, .inl a4, .inl a5, .inl a6], [] => k a1 a2 a3 a4 a5 a6 h
  | _, _ => none
theorem pk_X7_next_75_ok {Wp : List AV → List AV → HP → Prop} {r : (Int32 × HP)} {k : Int32 → Int32 → Int32 → Int32 → Int32 → Int32 → HP → Option (Int32 × HP)} (hk : ∀ (a1 : Int32) (a2 : Int32) (a3 : Int32) (a4 : Int32) (a5 : Int32) (a6 : Int32) (h : HP), k a1 a2 a3 a4 a5 a6 h = some r → Wp [.inr (.inr (.inl (7, 0))), .inl a1, .inl a2, .inl a3, .inl a4, .inl a5, .inl a6] [] h) : ∀ L st h, pk_X7_next_75 k L st h = some r → Wp L st h := by
  intro L st h q
  unfold pk_X7_next_75 at q
  split at q
  · exact hk _ _ _ _ _ _ _ q
  · cases q
noncomputable def g_X7_next_15  (h : HP) : Option (Int32 × HP) := (f_X7_finds ((-1000000001)) h).bind (fun q_1 => some (q_1.1, q_1.2))
def pk_X7_next_15 (k : HP → Option (Int32 × HP)) : List AV → List AV → HP → Option (Int32 × HP) := fun L st h => match L, st with
  | [.inr (.inr (.inl (7, 0))), .inl _, .inl _, .inr (.inr (.inr ())), .inr (.inr (.inr ())), .inr (.inr (.inr ())), .inr (.inr (.inr ()))], [] => k h
  | _, _ => none
theorem pk_X7_next_15_ok {Wp : List AV → List AV → HP → Prop} {r : (Int32 × HP)} {k : HP → Option (Int32 × HP)} (hk : ∀ (w1 : Int32) (w2 : Int32) (h : HP), k h = some r → Wp [.inr (.inr (.inl (7, 0))), .inl w1, .inl w2, .inr (.inr (.inr ())), .inr (.inr (.inr ())), .inr (.inr (.inr ())), .inr (.inr (.inr ()))] [] h) : ∀ L st h, pk_X7_next_15 k L st h = some r → Wp L st h := by
  intro L st h q
  unfold pk_X7_next_15 at q
  split at q
  · exact hk _ _ _ q
  · cases q
noncomputable def f_X7_next (a1 : Int32) (a2 : Int32) (h : HP) : Option (Int32 × HP) := (f_X7_isMember a1 h).bind (fun q_1 => if q_1.1 = (0 : Int32) then (g_X7_next_15 q_1.2) else ((f_X7_isRoom a2 q_1.2).bind (fun q_2 => if q_2.1 = (0 : Int32) then (g_X7_next_15 q_2.2) else ((f_X7_whose a1 0 q_2.2).bind (fun q_3 => if q_3.1 = a2 then ((f_X7_finds ((-1000000005)) q_3.2).bind (fun q_7 => some (q_7.1, q_7.2))) else ((f_X7_far a1 q_3.1 a2 q_3.2).bind (fun q_4 => if (0 : Int32) ≤ q_4.1 then ((am_ix (2 : Int32) 64).bind (fun k_5 => g_X7_next_75 am_fu a1 a2 q_3.1 q_4.1 ((-1)) ((h_rI q_4.2 13 0 k_5) - 1) q_4.2)) else ((f_X7_finds ((-1000000004)) q_4.2).bind (fun q_6 => some (q_6.1, q_6.2))))))))))
noncomputable def fl_X7_next : List AV → HP → Option (Int32 × HP) := fun as h => match as with
  | [.inr (.inr (.inl (7, 0))), .inl a1, .inl a2] => f_X7_next a1 a2 h
  | _ => none
noncomputable def F_X7_next : AF := .inl fl_X7_next
set_option maxRecDepth 20000 in
theorem w_X7_next_75 {p : Program} {l : Launch} {e : Env} {R : Room} {s : State} {m : MethodId} {args : Array Value} {below : List Frame} {meth : Method} {c : Code} {cells slots : Nat} {G : AG} {Q : (Int32 × HP) → State → Prop} (CX : am_X p l e R s m args below meth c cells slots G 7 cX7_next RX7 am_tb P_X7_next am_rI Q) {r : (Int32 × HP)} : ∀ (n : Nat) (a1 : Int32) (a2 : Int32) (a3 : Int32) (a4 : Int32) (a5 : Int32) (a6 : Int32) (h : HP), g_X7_next_75 n a1 a2 a3 a4 a5 a6 h = some r → am_W p l e R s m args below meth c cells slots G 7 (Q r) 75 [.inr (.inr (.inl (7, 0))), .inl a1, .inl a2, .inl a3, .inl a4, .inl a5, .inl a6] [] h := by
  intro n
  induction n with
  | zero =>
    intro a1 a2 a3 a4 a5 a6 h q
    have q9 : (none : Option (Int32 × HP)) = some r := q
    cases q9
  | succ n ih =>
    intro a1 a2 a3 a4 a5 a6 h q
    exact am_run_ok CX ok_X7_next (K := [(75, pk_X7_next_75 (g_X7_next_75 n))]) (am_K1 (Wp := am_W p l e R s m args below meth c cells slots G 7 (Q r)) (pk_X7_next_75_ok (Wp := am_W p l e R s m args below meth c cells slots G 7 (Q r) 75) ih) am_K0) 33 75 _ _ _ q
set_option maxRecDepth 20000 in
theorem w_X7_next_15 {p : Program} {l : Launch} {e : Env} {R : Room} {s : State} {m : MethodId} {args : Array Value} {below : List Frame} {meth : Method} {c : Code} {cells slots : Nat} {G : AG} {Q : (Int32 × HP) → State → Prop} (CX : am_X p l e R s m args below meth c cells slots G 7 cX7_next RX7 am_tb P_X7_next am_rI Q) {r : (Int32 × HP)} : ∀ (w1 : Int32) (w2 : Int32) (h : HP), g_X7_next_15 h = some r → am_W p l e R s m args below meth c cells slots G 7 (Q r) 15 [.inr (.inr (.inl (7, 0))), .inl w1, .inl w2, .inr (.inr (.inr ())), .inr (.inr (.inr ())), .inr (.inr (.inr ())), .inr (.inr (.inr ()))] [] h := by
  intro w1 w2 h q
  exact am_run_ok CX ok_X7_next (K := []) (am_K0 (Wp := am_W p l e R s m args below meth c cells slots G 7 (Q r))) 7 15 _ _ _ q
set_option maxRecDepth 20000 in
theorem b_X7_next (l : Launch) (G : AG) : am_B l G 7 cX7_next RX7 am_tb P_X7_next am_rI fl_X7_next := by
  intro p e R s m args below meth c cells slots Q CX as h r q
  unfold fl_X7_next at q
  split at q
  · exact am_run_ok CX ok_X7_next (K := [(15, pk_X7_next_15 (g_X7_next_15)), (75, pk_X7_next_75 (g_X7_next_75 am_fu))]) (am_K1 (Wp := am_W p l e R s m args below meth c cells slots G 7 (Q r)) (pk_X7_next_15_ok (Wp := am_W p l e R s m args below meth c cells slots G 7 (Q r) 15) (w_X7_next_15 CX)) (am_K1 (Wp := am_W p l e R s m args below meth c cells slots G 7 (Q r)) (pk_X7_next_75_ok (Wp := am_W p l e R s m args below meth c cells slots G 7 (Q r) 75) (w_X7_next_75 CX am_fu)) am_K0)) 35 0 _ _ _ q
  · cases q
theorem s_X7_next : ∀ as h x, fl_X7_next as h = some x → (∀ k, (some 7 : Option Nat) = some k → ∃ (j : Nat) (as' : List AV), as = .inr (.inr (.inl (k, j))) :: as') ∧ (am_l0 as).length ≤ 7 := by
  intro as h x q
  unfold fl_X7_next at q
  split at q
  · exact ⟨fun k e => by cases e; exact ⟨_, _, rfl⟩, Nat.le_of_ble_eq_true rfl⟩
  · cases q
theorem M_X7_next (l : Launch) (G : AG) : am_M l G yX7_next cX7_next 7 (some .int) 7 164 (some 7) F_X7_next := am_M_of (f := fl_X7_next) (toR := fun x => (some (.inl x.1), x.2)) (P := P_X7_next) (Rr := am_rI) (own := RX7) (by decide) rfl (fun _ _ => rfl) s_X7_next am_wrI am_rkI pf_RX7 pk_RX7 ps_RX7 (List.forall_mem_cons.mpr ⟨cv_RX7_46 l G (by decide) (by decide), (List.forall_mem_cons.mpr ⟨cv_RX7_78 l G (by decide) (by decide), (List.forall_mem_cons.mpr ⟨cv_RX7_93 l G (by decide) (by decide), (List.forall_mem_cons.mpr ⟨cv_RX7_97 l G (by decide) (by decide), (List.forall_mem_cons.mpr ⟨cv_RX7_108 l G (by decide) (by decide), (List.forall_mem_cons.mpr ⟨cv_RX7_111 l G (by decide) (by decide), (List.forall_mem_cons.mpr ⟨cv_RX7_163 l G (by decide) (by decide), (fun _ q => by cases q)⟩)⟩)⟩)⟩)⟩)⟩)⟩) (List.forall_mem_cons.mpr ⟨cs_RX7_75 l G (by decide) (by decide), (fun _ q => by cases q)⟩) (fun _ q => by cases q) (b_X7_next l G)
theorem cv_RX7_166 (l : Launch) (G : AG) {fr lo : Nat} (h1 : 7 + 1 ≤ fr) (h2 : 8 + (3 + 11) + 160 ≤ lo) : am_cvOK l G RX7 fr lo (166, 3, F_X7_comes) := ⟨yX7_comes, cX7_comes, 3, (some .boolean), 7, 160, 7, RX7, M_X7_comes l G, ⟨(am_tb_mem (wd_22 _ (List.mem_of_getElem? (i := 12) rfl))), (am_tb_mem (wd_22 _ (List.mem_of_getElem? (i := 13) rfl))), (am_tb_mem (wd_1 _ (List.mem_of_getElem? (i := 3) rfl))), (am_tb_mem (wd_1 _ (List.mem_of_getElem? (i := 26) rfl))), (am_tb_mem (wd_22 _ (List.mem_of_getElem? (i := 14) rfl)))⟩, ⟨rfl, by decide, by decide, by decide +kernel⟩, Or.inl ⟨by decide, rfl⟩, h1, h2⟩
theorem cv_RX7_169 (l : Launch) (G : AG) {fr lo : Nat} (h1 : 3 + 1 ≤ fr) (h2 : 8 + (3 + 11) + 72 ≤ lo) : am_cvOK l G RX7 fr lo (169, 3, F_X7_mayHave) := ⟨yX7_mayHave, cX7_mayHave, 3, (some .boolean), 3, 72, 7, RX7, M_X7_mayHave l G, ⟨(am_tb_mem (wd_22 _ (List.mem_of_getElem? (i := 15) rfl))), (am_tb_mem (wd_22 _ (List.mem_of_getElem? (i := 16) rfl))), (am_tb_mem (wd_1 _ (List.mem_of_getElem? (i := 4) rfl))), (am_tb_mem (wd_1 _ (List.mem_of_getElem? (i := 26) rfl))), (am_tb_mem (wd_22 _ (List.mem_of_getElem? (i := 17) rfl)))⟩, ⟨rfl, by decide, by decide, by decide +kernel⟩, Or.inl ⟨by decide, rfl⟩, h1, h2⟩
def C_X7_wanted : List AC := [(0, .aload_n 0, 1, []), (1, .iload_n 1, 2, []), (2, .invokevirtual 111, 5, []), (5, .ifCond .eq 10, 8, [15]), (8, .iload_n 2, 9, []), (9, .invokestatic 75, 12, []), (12, .ifCond .ne 10, 15, [22]), (15, .aload_n 0, 16, []), (16, .ldc 41, 18, []), (18, .invokevirtual 78, 21, []), (21, .ireturn, 22, []), (22, .aload_n 0, 23, []), (23, .iload_n 1, 24, []), (24, .iload_n 2, 25, []), (25, .invokevirtual 166, 28, []), (28, .ifCond .eq 10, 31, [38]), (31, .aload_n 0, 32, []), (32, .ldc 126, 34, []), (34, .invokevirtual 78, 37, []), (37, .ireturn, 38, []), (38, .iconst (-1), 39, []), (39, .istore_n 3, 40, []), (40, .aload_n 0, 41, []), (41, .getfield 7, 44, []), (44, .iconst 2, 45, []), (45, .iaload, 46, []), (46, .iconst 1, 47, []), (47, .isub, 48, []), (48, .istore 4, 50, []), (50, .iload 4, 52, []), (52, .ifCond .lt 60, 55, [112]), (55, .aload_n 0, 56, []), (56, .iload_n 1, 57, []), (57, .iload 4, 59, []), (59, .invokevirtual 169, 62, []), (62, .ifCond .eq 44, 65, [106]), (65, .aload_n 0, 66, []), (66, .iconst 1, 67, []), (67, .aload_n 0, 68, []), (68, .getfield 16, 71, []), (71, .invokevirtual 159, 74, []), (74, .aload_n 0, 75, []), (75, .iload 4, 77, []), (77, .iload_n 1, 78, []), (78, .invokevirtual 127, 81, []), (81, .aload_n 0, 82, []), (82, .iload_n 1, 83, []), (83, .iload_n 2, 84, []), (84, .invokevirtual 166, 87, []), (87, .ifCond .eq 8, 90, [95]), (90, .iload 4, 92, []), (92, .goto 4, 95, [96]), (95, .iload_n 3, 96, []), (96, .istore_n 3, 97, []), (97, .aload_n 0, 98, []), (98, .iconst 0, 99, []), (99, .aload_n 0, 100, []), (100, .getfield 16, 103, []), (103, .invokevirtual 159, 106, []), (106, .iinc 4 (-1), 109, []), (109, .goto (-59), 112, [50]), (112, .iload_n 3, 113, []), (113, .ifCond .ge 12, 116, [125]), (116, .aload_n 0, 117, []), (117, .ldc 100, 119, []), (119, .invokevirtual 78, 122, []), (122, .goto 4, 125, [126]), (125, .iload_n 3, 126, []), (126, .ireturn, 127, [])]
theorem ok_X7_wanted : ∀ x ∈ C_X7_wanted, am_ok cX7_wanted 5 x = true := by decide +kernel
noncomputable def P_X7_wanted : AP := (PF_RX7, PK_RX7, PS_RX7, [(78, 2, F_X7_finds), (111, 2, F_X7_isMember), (127, 3, F_X7_lends), (159, 3, F_X7_moveAll), (166, 3, F_X7_comes), (169, 3, F_X7_mayHave)], [(75, 1, F_X7_isRoom)], [])
noncomputable def g_X7_wanted_96 (k50 : Int32 → Int32 → Int32 → Int32 → HP → Option (Int32 × HP)) (a1 : Int32) (a2 : Int32) (a3 : Int32) (a4 : Int32) (h : HP) : Option (Int32 × HP) := (f_X7_moveAll 0 2 h).bind (fun q_1 => k50 a1 a2 a4 (a3 + (-1)) q_1)
def pk_X7_wanted_96 (k : Int32 → Int32 → Int32 → Int32 → HP → Option (Int32 × HP)) : List AV → List AV → HP → Option (Int32 × HP) := fun L st h => match L, st with
  | [.inr (.inr (.inl (7, 0))), .inl a1, .inl a2, .inl _, .inl a3], [.inl a4] => k a1 a2 a3 a4 h
  | _, _ => none
theorem pk_X7_wanted_96_ok {Wp : List AV → List AV → HP → Prop} {r : (Int32 × HP)} {k : Int32 → Int32 → Int32 → Int32 → HP → Option (Int32 × HP)} (hk : ∀ (a1 : Int32) (a2 : Int32) (a3 : Int32) (a4 : Int32) (w1 : Int32) (h : HP), k a1 a2 a3 a4 h = some r → Wp [.inr (.inr (.inl (7, 0))), .inl a1, .inl a2, .inl w1, .inl a3] [.inl a4] h) : ∀ L st h, pk_X7_wanted_96 k L st h = some r → Wp L st h := by
  intro L st h q
  unfold pk_X7_wanted_96 at q
  split at q
  · exact hk _ _ _ _ _ _ q
  · cases q
noncomputable def g_X7_wanted_50  : Nat → Int32 → Int32 → Int32 → Int32 → HP → Option (Int32 × HP)
  | 0, _, _, _, _, _ => none
  | n + 1, a1, a2, a3, a4, h => if a4 < (0 : Int32) then (if (0 : Int32) ≤ a3 then (some (a3, h)) else ((f_X7_finds ((-1000000004)) h).bind (fun q_1 => some (q_1.1, q_1.2)))) else ((f_X7_mayHave a1 a4 h).bind (fun q_2 => if q_2.1 = (0 : Int32) then (g_X7_wanted_50 n a1 a2 a3 (a4 + (-1)) q_2.2) else ((f_X7_moveAll 1 2 q_2.2).bind (fun q_3 => (f_X7_lends a4 a1 q_3).bind (fun q_4 => (f_X7_comes a1 a2 q_4).bind (fun q_5 => if q_5.1 = (0 : Int32) then (g_X7_wanted_96 (g_X7_wanted_50 n) a1 a2 a4 a3 q_5.2) else (g_X7_wanted_96 (g_X7_wanted_50 n) a1 a2 a4 a4 q_5.2)))))))
def pk_X7_wanted_50 (k : Int32 → Int32 → Int32 → Int32 → HP → Option (Int32 × HP)) : List AV → List AV → HP → Option (Int32 × HP) := fun L st h => match L, st with
  | [.inr (.inr (.inl (7, 0))), .inl a1, .inl a2, .inl a3, .inl a4], [] => k a1 a2 a3 a4 h
  | _, _ => none
theorem pk_X7_wanted_50_ok {Wp : List AV → List AV → HP → Prop} {r : (Int32 × HP)} {k : Int32 → Int32 → Int32 → Int32 → HP → Option (Int32 × HP)} (hk : ∀ (a1 : Int32) (a2 : Int32) (a3 : Int32) (a4 : Int32) (h : HP), k a1 a2 a3 a4 h = some r → Wp [.inr (.inr (.inl (7, 0))), .inl a1, .inl a2, .inl a3, .inl a4] [] h) : ∀ L st h, pk_X7_wanted_50 k L st h = some r → Wp L st h := by
  intro L st h q
  unfold pk_X7_wanted_50 at q
  split at q
  · exact hk _ _ _ _ _ q
  · cases q
noncomputable def g_X7_wanted_15  (h : HP) : Option (Int32 × HP) := (f_X7_finds ((-1000000001)) h).bind (fun q_1 => some (q_1.1, q_1.2))
def pk_X7_wanted_15 (k : HP → Option (Int32 × HP)) : List AV → List AV → HP → Option (Int32 × HP) := fun L st h => match L, st with
  | [.inr (.inr (.inl (7, 0))), .inl _, .inl _, .inr (.inr (.inr ())), .inr (.inr (.inr ()))], [] => k h
  | _, _ => none
theorem pk_X7_wanted_15_ok {Wp : List AV → List AV → HP → Prop} {r : (Int32 × HP)} {k : HP → Option (Int32 × HP)} (hk : ∀ (w1 : Int32) (w2 : Int32) (h : HP), k h = some r → Wp [.inr (.inr (.inl (7, 0))), .inl w1, .inl w2, .inr (.inr (.inr ())), .inr (.inr (.inr ()))] [] h) : ∀ L st h, pk_X7_wanted_15 k L st h = some r → Wp L st h := by
  intro L st h q
  unfold pk_X7_wanted_15 at q
  split at q
  · exact hk _ _ _ q
  · cases q
noncomputable def f_X7_wanted (a1 : Int32) (a2 : Int32) (h : HP) : Option (Int32 × HP) := (f_X7_isMember a1 h).bind (fun q_1 => if q_1.1 = (0 : Int32) then (g_X7_wanted_15 q_1.2) else ((f_X7_isRoom a2 q_1.2).bind (fun q_2 => if q_2.1 = (0 : Int32) then (g_X7_wanted_15 q_2.2) else ((f_X7_comes a1 a2 q_2.2).bind (fun q_3 => if q_3.1 = (0 : Int32) then ((am_ix (2 : Int32) 64).bind (fun k_4 => g_X7_wanted_50 am_fu a1 a2 ((-1)) ((h_rI q_3.2 13 0 k_4) - 1) q_3.2)) else ((f_X7_finds ((-1000000005)) q_3.2).bind (fun q_5 => some (q_5.1, q_5.2))))))))
noncomputable def fl_X7_wanted : List AV → HP → Option (Int32 × HP) := fun as h => match as with
  | [.inr (.inr (.inl (7, 0))), .inl a1, .inl a2] => f_X7_wanted a1 a2 h
  | _ => none
noncomputable def F_X7_wanted : AF := .inl fl_X7_wanted
set_option maxRecDepth 20000 in
theorem w_X7_wanted_96 {p : Program} {l : Launch} {e : Env} {R : Room} {s : State} {m : MethodId} {args : Array Value} {below : List Frame} {meth : Method} {c : Code} {cells slots : Nat} {G : AG} {Q : (Int32 × HP) → State → Prop} (CX : am_X p l e R s m args below meth c cells slots G 5 cX7_wanted RX7 am_tb P_X7_wanted am_rI Q) {r : (Int32 × HP)} {k50 : Int32 → Int32 → Int32 → Int32 → HP → Option (Int32 × HP)} (hk50 : ∀ (a1 : Int32) (a2 : Int32) (a3 : Int32) (a4 : Int32) (h : HP), k50 a1 a2 a3 a4 h = some r → am_W p l e R s m args below meth c cells slots G 5 (Q r) 50 [.inr (.inr (.inl (7, 0))), .inl a1, .inl a2, .inl a3, .inl a4] [] h) : ∀ (a1 : Int32) (a2 : Int32) (a3 : Int32) (a4 : Int32) (w1 : Int32) (h : HP), g_X7_wanted_96 k50 a1 a2 a3 a4 h = some r → am_W p l e R s m args below meth c cells slots G 5 (Q r) 96 [.inr (.inr (.inl (7, 0))), .inl a1, .inl a2, .inl w1, .inl a3] [.inl a4] h := by
  intro a1 a2 a3 a4 w1 h q
  exact am_run_ok CX ok_X7_wanted (K := [(50, pk_X7_wanted_50 (k50))]) (am_K1 (Wp := am_W p l e R s m args below meth c cells slots G 5 (Q r)) (pk_X7_wanted_50_ok (Wp := am_W p l e R s m args below meth c cells slots G 5 (Q r) 50) hk50) am_K0) 11 96 _ _ _ q
set_option maxRecDepth 20000 in
theorem w_X7_wanted_50 {p : Program} {l : Launch} {e : Env} {R : Room} {s : State} {m : MethodId} {args : Array Value} {below : List Frame} {meth : Method} {c : Code} {cells slots : Nat} {G : AG} {Q : (Int32 × HP) → State → Prop} (CX : am_X p l e R s m args below meth c cells slots G 5 cX7_wanted RX7 am_tb P_X7_wanted am_rI Q) {r : (Int32 × HP)} : ∀ (n : Nat) (a1 : Int32) (a2 : Int32) (a3 : Int32) (a4 : Int32) (h : HP), g_X7_wanted_50 n a1 a2 a3 a4 h = some r → am_W p l e R s m args below meth c cells slots G 5 (Q r) 50 [.inr (.inr (.inl (7, 0))), .inl a1, .inl a2, .inl a3, .inl a4] [] h := by
  intro n
  induction n with
  | zero =>
    intro a1 a2 a3 a4 h q
    have q9 : (none : Option (Int32 × HP)) = some r := q
    cases q9
  | succ n ih =>
    intro a1 a2 a3 a4 h q
    exact am_run_ok CX ok_X7_wanted (K := [(50, pk_X7_wanted_50 (g_X7_wanted_50 n)), (96, pk_X7_wanted_96 (g_X7_wanted_96 (g_X7_wanted_50 n)))]) (am_K1 (Wp := am_W p l e R s m args below meth c cells slots G 5 (Q r)) (pk_X7_wanted_50_ok (Wp := am_W p l e R s m args below meth c cells slots G 5 (Q r) 50) ih) (am_K1 (Wp := am_W p l e R s m args below meth c cells slots G 5 (Q r)) (pk_X7_wanted_96_ok (Wp := am_W p l e R s m args below meth c cells slots G 5 (Q r) 96) (w_X7_wanted_96 CX ih)) am_K0)) 26 50 _ _ _ q
set_option maxRecDepth 20000 in
theorem w_X7_wanted_15 {p : Program} {l : Launch} {e : Env} {R : Room} {s : State} {m : MethodId} {args : Array Value} {below : List Frame} {meth : Method} {c : Code} {cells slots : Nat} {G : AG} {Q : (Int32 × HP) → State → Prop} (CX : am_X p l e R s m args below meth c cells slots G 5 cX7_wanted RX7 am_tb P_X7_wanted am_rI Q) {r : (Int32 × HP)} : ∀ (w1 : Int32) (w2 : Int32) (h : HP), g_X7_wanted_15 h = some r → am_W p l e R s m args below meth c cells slots G 5 (Q r) 15 [.inr (.inr (.inl (7, 0))), .inl w1, .inl w2, .inr (.inr (.inr ())), .inr (.inr (.inr ()))] [] h := by
  intro w1 w2 h q
  exact am_run_ok CX ok_X7_wanted (K := []) (am_K0 (Wp := am_W p l e R s m args below meth c cells slots G 5 (Q r))) 7 15 _ _ _ q
set_option maxRecDepth 20000 in
theorem b_X7_wanted (l : Launch) (G : AG) : am_B l G 5 cX7_wanted RX7 am_tb P_X7_wanted am_rI fl_X7_wanted := by
  intro p e R s m args below meth c cells slots Q CX as h r q
  unfold fl_X7_wanted at q
  split at q
  · exact am_run_ok CX ok_X7_wanted (K := [(15, pk_X7_wanted_15 (g_X7_wanted_15)), (50, pk_X7_wanted_50 (g_X7_wanted_50 am_fu))]) (am_K1 (Wp := am_W p l e R s m args below meth c cells slots G 5 (Q r)) (pk_X7_wanted_15_ok (Wp := am_W p l e R s m args below meth c cells slots G 5 (Q r) 15) (w_X7_wanted_15 CX)) (am_K1 (Wp := am_W p l e R s m args below meth c cells slots G 5 (Q r)) (pk_X7_wanted_50_ok (Wp := am_W p l e R s m args below meth c cells slots G 5 (Q r) 50) (w_X7_wanted_50 CX am_fu)) am_K0)) 24 0 _ _ _ q
  · cases q
theorem s_X7_wanted : ∀ as h x, fl_X7_wanted as h = some x → (∀ k, (some 7 : Option Nat) = some k → ∃ (j : Nat) (as' : List AV), as = .inr (.inr (.inl (k, j))) :: as') ∧ (am_l0 as).length ≤ 5 := by
  intro as h x q
  unfold fl_X7_wanted at q
  split at q
  · exact ⟨fun k e => by cases e; exact ⟨_, _, rfl⟩, Nat.le_of_ble_eq_true rfl⟩
  · cases q
theorem M_X7_wanted (l : Launch) (G : AG) : am_M l G yX7_wanted cX7_wanted 5 (some .int) 8 182 (some 7) F_X7_wanted := am_M_of (f := fl_X7_wanted) (toR := fun x => (some (.inl x.1), x.2)) (P := P_X7_wanted) (Rr := am_rI) (own := RX7) (by decide) rfl (fun _ _ => rfl) s_X7_wanted am_wrI am_rkI pf_RX7 pk_RX7 ps_RX7 (List.forall_mem_cons.mpr ⟨cv_RX7_78 l G (by decide) (by decide), (List.forall_mem_cons.mpr ⟨cv_RX7_111 l G (by decide) (by decide), (List.forall_mem_cons.mpr ⟨cv_RX7_127 l G (by decide) (by decide), (List.forall_mem_cons.mpr ⟨cv_RX7_159 l G (by decide) (by decide), (List.forall_mem_cons.mpr ⟨cv_RX7_166 l G (by decide) (by decide), (List.forall_mem_cons.mpr ⟨cv_RX7_169 l G (by decide) (by decide), (fun _ q => by cases q)⟩)⟩)⟩)⟩)⟩)⟩) (List.forall_mem_cons.mpr ⟨cs_RX7_75 l G (by decide) (by decide), (fun _ q => by cases q)⟩) (fun _ q => by cases q) (b_X7_wanted l G)
def C_X7_two : List AC := [(0, .aload_n 0, 1, []), (1, .iload_n 1, 2, []), (2, .invokevirtual 111, 5, []), (5, .ifCond .eq 10, 8, [15]), (8, .iload_n 2, 9, []), (9, .invokestatic 75, 12, []), (12, .ifCond .ne 10, 15, [22]), (15, .aload_n 0, 16, []), (16, .ldc 41, 18, []), (18, .invokevirtual 78, 21, []), (21, .ireturn, 22, []), (22, .aload_n 0, 23, []), (23, .iload_n 1, 24, []), (24, .iload_n 2, 25, []), (25, .invokevirtual 166, 28, []), (28, .ifCond .eq 10, 31, [38]), (31, .aload_n 0, 32, []), (32, .ldc 126, 34, []), (34, .invokevirtual 78, 37, []), (37, .ireturn, 38, []), (38, .iconst (-1), 39, []), (39, .istore_n 3, 40, []), (40, .aload_n 0, 41, []), (41, .iconst 1, 42, []), (42, .aload_n 0, 43, []), (43, .getfield 16, 46, []), (46, .invokevirtual 159, 49, []), (49, .aload_n 0, 50, []), (50, .getfield 7, 53, []), (53, .iconst 2, 54, []), (54, .iaload, 55, []), (55, .iconst 1, 56, []), (56, .isub, 57, []), (57, .istore 4, 59, []), (59, .iload 4, 61, []), (61, .ifCond .lt 97, 64, [158]), (64, .aload_n 0, 65, []), (65, .getfield 7, 68, []), (68, .iconst 2, 69, []), (69, .iaload, 70, []), (70, .iconst 1, 71, []), (71, .isub, 72, []), (72, .istore 5, 74, []), (74, .iload 5, 76, []), (76, .iload 4, 78, []), (78, .if_icmp .le 74, 81, [152]), (81, .aload_n 0, 82, []), (82, .iload_n 1, 83, []), (83, .iload 4, 85, []), (85, .invokevirtual 169, 88, []), (88, .ifCond .eq 58, 91, [146]), (91, .aload_n 0, 92, []), (92, .iload 4, 94, []), (94, .iload_n 1, 95, []), (95, .invokevirtual 127, 98, []), (98, .aload_n 0, 99, []), (99, .iload_n 1, 100, []), (100, .iload 5, 102, []), (102, .invokevirtual 169, 105, []), (105, .ifCond .eq 32, 108, [137]), (108, .aload_n 0, 109, []), (109, .iload 5, 111, []), (111, .iload_n 1, 112, []), (112, .invokevirtual 127, 115, []), (115, .aload_n 0, 116, []), (116, .iload_n 1, 117, []), (117, .iload_n 2, 118, []), (118, .invokevirtual 166, 121, []), (121, .ifCond .eq 14, 124, [135]), (124, .bipush 10, 126, []), (126, .iload 4, 128, []), (128, .imul, 129, []), (129, .iload 5, 131, []), (131, .iadd, 132, []), (132, .goto 4, 135, [136]), (135, .iload_n 3, 136, []), (136, .istore_n 3, 137, []), (137, .aload_n 0, 138, []), (138, .iconst 0, 139, []), (139, .aload_n 0, 140, []), (140, .getfield 16, 143, []), (143, .invokevirtual 159, 146, []), (146, .iinc 5 (-1), 149, []), (149, .goto (-75), 152, [74]), (152, .iinc 4 (-1), 155, []), (155, .goto (-96), 158, [59]), (158, .iload_n 3, 159, []), (159, .ifCond .ge 12, 162, [171]), (162, .aload_n 0, 163, []), (163, .ldc 100, 165, []), (165, .invokevirtual 78, 168, []), (168, .goto 4, 171, [172]), (171, .iload_n 3, 172, []), (172, .ireturn, 173, [])]
theorem ok_X7_two : ∀ x ∈ C_X7_two, am_ok cX7_two 6 x = true := by decide +kernel
noncomputable def P_X7_two : AP := (PF_RX7, PK_RX7, PS_RX7, [(78, 2, F_X7_finds), (111, 2, F_X7_isMember), (127, 3, F_X7_lends), (159, 3, F_X7_moveAll), (166, 3, F_X7_comes), (169, 3, F_X7_mayHave)], [(75, 1, F_X7_isRoom)], [])
noncomputable def g_X7_two_137 (k59 : Int32 → Int32 → Int32 → Int32 → HP → Option (Int32 × HP)) (k74 : Int32 → Int32 → Int32 → Int32 → Int32 → HP → Option (Int32 × HP)) (a1 : Int32) (a2 : Int32) (a3 : Int32) (a4 : Int32) (a5 : Int32) (h : HP) : Option (Int32 × HP) := (f_X7_moveAll 0 2 h).bind (fun q_1 => k74 a1 a2 a3 a4 (a5 + (-1)) q_1)
def pk_X7_two_137 (k : Int32 → Int32 → Int32 → Int32 → Int32 → HP → Option (Int32 × HP)) : List AV → List AV → HP → Option (Int32 × HP) := fun L st h => match L, st with
  | [.inr (.inr (.inl (7, 0))), .inl a1, .inl a2, .inl a3, .inl a4, .inl a5], [] => k a1 a2 a3 a4 a5 h
  | _, _ => none
theorem pk_X7_two_137_ok {Wp : List AV → List AV → HP → Prop} {r : (Int32 × HP)} {k : Int32 → Int32 → Int32 → Int32 → Int32 → HP → Option (Int32 × HP)} (hk : ∀ (a1 : Int32) (a2 : Int32) (a3 : Int32) (a4 : Int32) (a5 : Int32) (h : HP), k a1 a2 a3 a4 a5 h = some r → Wp [.inr (.inr (.inl (7, 0))), .inl a1, .inl a2, .inl a3, .inl a4, .inl a5] [] h) : ∀ L st h, pk_X7_two_137 k L st h = some r → Wp L st h := by
  intro L st h q
  unfold pk_X7_two_137 at q
  split at q
  · exact hk _ _ _ _ _ _ q
  · cases q
noncomputable def g_X7_two_74 (k59 : Int32 → Int32 → Int32 → Int32 → HP → Option (Int32 × HP))  : Nat → Int32 → Int32 → Int32 → Int32 → Int32 → HP → Option (Int32 × HP)
  | 0, _, _, _, _, _, _ => none
  | n + 1, a1, a2, a3, a4, a5, h => if a5 ≤ a4 then (k59 a1 a2 a3 (a4 + (-1)) h) else ((f_X7_mayHave a1 a4 h).bind (fun q_1 => if q_1.1 = (0 : Int32) then (g_X7_two_74 k59 n a1 a2 a3 a4 (a5 + (-1)) q_1.2) else ((f_X7_lends a4 a1 q_1.2).bind (fun q_2 => (f_X7_mayHave a1 a5 q_2).bind (fun q_3 => if q_3.1 = (0 : Int32) then (g_X7_two_137 k59 (g_X7_two_74 k59 n) a1 a2 a3 a4 a5 q_3.2) else ((f_X7_lends a5 a1 q_3.2).bind (fun q_4 => (f_X7_comes a1 a2 q_4).bind (fun q_5 => if q_5.1 = (0 : Int32) then (g_X7_two_137 k59 (g_X7_two_74 k59 n) a1 a2 a3 a4 a5 q_5.2) else (g_X7_two_137 k59 (g_X7_two_74 k59 n) a1 a2 ((10 * a4) + a5) a4 a5 q_5.2)))))))))
def pk_X7_two_74 (k : Int32 → Int32 → Int32 → Int32 → Int32 → HP → Option (Int32 × HP)) : List AV → List AV → HP → Option (Int32 × HP) := fun L st h => match L, st with
  | [.inr (.inr (.inl (7, 0))), .inl a1, .inl a2, .inl a3, .inl a4, .inl a5], [] => k a1 a2 a3 a4 a5 h
  | _, _ => none
theorem pk_X7_two_74_ok {Wp : List AV → List AV → HP → Prop} {r : (Int32 × HP)} {k : Int32 → Int32 → Int32 → Int32 → Int32 → HP → Option (Int32 × HP)} (hk : ∀ (a1 : Int32) (a2 : Int32) (a3 : Int32) (a4 : Int32) (a5 : Int32) (h : HP), k a1 a2 a3 a4 a5 h = some r → Wp [.inr (.inr (.inl (7, 0))), .inl a1, .inl a2, .inl a3, .inl a4, .inl a5] [] h) : ∀ L st h, pk_X7_two_74 k L st h = some r → Wp L st h := by
  intro L st h q
  unfold pk_X7_two_74 at q
  split at q
  · exact hk _ _ _ _ _ _ q
  · cases q
noncomputable def g_X7_two_59  : Nat → Int32 → Int32 → Int32 → Int32 → HP → Option (Int32 × HP)
  | 0, _, _, _, _, _ => none
  | n + 1, a1, a2, a3, a4, h => if a4 < (0 : Int32) then (if (0 : Int32) ≤ a3 then (some (a3, h)) else ((f_X7_finds ((-1000000004)) h).bind (fun q_1 => some (q_1.1, q_1.2)))) else ((am_ix (2 : Int32) 64).bind (fun k_2 => g_X7_two_74 (g_X7_two_59 n) am_fu a1 a2 a3 a4 ((h_rI h 13 0 k_2) - 1) h))
def pk_X7_two_59 (k : Int32 → Int32 → Int32 → Int32 → HP → Option (Int32 × HP)) : List AV → List AV → HP → Option (Int32 × HP) := fun L st h => match L, st with
  | [.inr (.inr (.inl (7, 0))), .inl a1, .inl a2, .inl a3, .inl a4, _], [] => k a1 a2 a3 a4 h
  | _, _ => none
theorem pk_X7_two_59_ok {Wp : List AV → List AV → HP → Prop} {r : (Int32 × HP)} {k : Int32 → Int32 → Int32 → Int32 → HP → Option (Int32 × HP)} (hk : ∀ (a1 : Int32) (a2 : Int32) (a3 : Int32) (a4 : Int32) (w1 : AV) (h : HP), k a1 a2 a3 a4 h = some r → Wp [.inr (.inr (.inl (7, 0))), .inl a1, .inl a2, .inl a3, .inl a4, w1] [] h) : ∀ L st h, pk_X7_two_59 k L st h = some r → Wp L st h := by
  intro L st h q
  unfold pk_X7_two_59 at q
  split at q
  · exact hk _ _ _ _ _ _ q
  · cases q
noncomputable def g_X7_two_15  (h : HP) : Option (Int32 × HP) := (f_X7_finds ((-1000000001)) h).bind (fun q_1 => some (q_1.1, q_1.2))
def pk_X7_two_15 (k : HP → Option (Int32 × HP)) : List AV → List AV → HP → Option (Int32 × HP) := fun L st h => match L, st with
  | [.inr (.inr (.inl (7, 0))), .inl _, .inl _, .inr (.inr (.inr ())), .inr (.inr (.inr ())), .inr (.inr (.inr ()))], [] => k h
  | _, _ => none
theorem pk_X7_two_15_ok {Wp : List AV → List AV → HP → Prop} {r : (Int32 × HP)} {k : HP → Option (Int32 × HP)} (hk : ∀ (w1 : Int32) (w2 : Int32) (h : HP), k h = some r → Wp [.inr (.inr (.inl (7, 0))), .inl w1, .inl w2, .inr (.inr (.inr ())), .inr (.inr (.inr ())), .inr (.inr (.inr ()))] [] h) : ∀ L st h, pk_X7_two_15 k L st h = some r → Wp L st h := by
  intro L st h q
  unfold pk_X7_two_15 at q
  split at q
  · exact hk _ _ _ q
  · cases q
noncomputable def f_X7_two (a1 : Int32) (a2 : Int32) (h : HP) : Option (Int32 × HP) := (f_X7_isMember a1 h).bind (fun q_1 => if q_1.1 = (0 : Int32) then (g_X7_two_15 q_1.2) else ((f_X7_isRoom a2 q_1.2).bind (fun q_2 => if q_2.1 = (0 : Int32) then (g_X7_two_15 q_2.2) else ((f_X7_comes a1 a2 q_2.2).bind (fun q_3 => if q_3.1 = (0 : Int32) then ((f_X7_moveAll 1 2 q_3.2).bind (fun q_4 => (am_ix (2 : Int32) 64).bind (fun k_5 => g_X7_two_59 am_fu a1 a2 ((-1)) ((h_rI q_4 13 0 k_5) - 1) q_4))) else ((f_X7_finds ((-1000000005)) q_3.2).bind (fun q_6 => some (q_6.1, q_6.2))))))))
noncomputable def fl_X7_two : List AV → HP → Option (Int32 × HP) := fun as h => match as with
  | [.inr (.inr (.inl (7, 0))), .inl a1, .inl a2] => f_X7_two a1 a2 h
  | _ => none
noncomputable def F_X7_two : AF := .inl fl_X7_two
set_option maxRecDepth 20000 in
theorem w_X7_two_137 {p : Program} {l : Launch} {e : Env} {R : Room} {s : State} {m : MethodId} {args : Array Value} {below : List Frame} {meth : Method} {c : Code} {cells slots : Nat} {G : AG} {Q : (Int32 × HP) → State → Prop} (CX : am_X p l e R s m args below meth c cells slots G 6 cX7_two RX7 am_tb P_X7_two am_rI Q) {r : (Int32 × HP)} {k59 : Int32 → Int32 → Int32 → Int32 → HP → Option (Int32 × HP)} (hk59 : ∀ (a1 : Int32) (a2 : Int32) (a3 : Int32) (a4 : Int32) (w1 : AV) (h : HP), k59 a1 a2 a3 a4 h = some r → am_W p l e R s m args below meth c cells slots G 6 (Q r) 59 [.inr (.inr (.inl (7, 0))), .inl a1, .inl a2, .inl a3, .inl a4, w1] [] h) {k74 : Int32 → Int32 → Int32 → Int32 → Int32 → HP → Option (Int32 × HP)} (hk74 : ∀ (a1 : Int32) (a2 : Int32) (a3 : Int32) (a4 : Int32) (a5 : Int32) (h : HP), k74 a1 a2 a3 a4 a5 h = some r → am_W p l e R s m args below meth c cells slots G 6 (Q r) 74 [.inr (.inr (.inl (7, 0))), .inl a1, .inl a2, .inl a3, .inl a4, .inl a5] [] h) : ∀ (a1 : Int32) (a2 : Int32) (a3 : Int32) (a4 : Int32) (a5 : Int32) (h : HP), g_X7_two_137 k59 k74 a1 a2 a3 a4 a5 h = some r → am_W p l e R s m args below meth c cells slots G 6 (Q r) 137 [.inr (.inr (.inl (7, 0))), .inl a1, .inl a2, .inl a3, .inl a4, .inl a5] [] h := by
  intro a1 a2 a3 a4 a5 h q
  exact am_run_ok CX ok_X7_two (K := [(74, pk_X7_two_74 (k74))]) (am_K1 (Wp := am_W p l e R s m args below meth c cells slots G 6 (Q r)) (pk_X7_two_74_ok (Wp := am_W p l e R s m args below meth c cells slots G 6 (Q r) 74) hk74) am_K0) 10 137 _ _ _ q
set_option maxRecDepth 20000 in
theorem w_X7_two_74 {p : Program} {l : Launch} {e : Env} {R : Room} {s : State} {m : MethodId} {args : Array Value} {below : List Frame} {meth : Method} {c : Code} {cells slots : Nat} {G : AG} {Q : (Int32 × HP) → State → Prop} (CX : am_X p l e R s m args below meth c cells slots G 6 cX7_two RX7 am_tb P_X7_two am_rI Q) {r : (Int32 × HP)} {k59 : Int32 → Int32 → Int32 → Int32 → HP → Option (Int32 × HP)} (hk59 : ∀ (a1 : Int32) (a2 : Int32) (a3 : Int32) (a4 : Int32) (w1 : AV) (h : HP), k59 a1 a2 a3 a4 h = some r → am_W p l e R s m args below meth c cells slots G 6 (Q r) 59 [.inr (.inr (.inl (7, 0))), .inl a1, .inl a2, .inl a3, .inl a4, w1] [] h) : ∀ (n : Nat) (a1 : Int32) (a2 : Int32) (a3 : Int32) (a4 : Int32) (a5 : Int32) (h : HP), g_X7_two_74 k59 n a1 a2 a3 a4 a5 h = some r → am_W p l e R s m args below meth c cells slots G 6 (Q r) 74 [.inr (.inr (.inl (7, 0))), .inl a1, .inl a2, .inl a3, .inl a4, .inl a5] [] h := by
  intro n
  induction n with
  | zero =>
    intro a1 a2 a3 a4 a5 h q
    have q9 : (none : Option (Int32 × HP)) = some r := q
    cases q9
  | succ n ih =>
    intro a1 a2 a3 a4 a5 h q
    exact am_run_ok CX ok_X7_two (K := [(59, pk_X7_two_59 (k59)), (74, pk_X7_two_74 (g_X7_two_74 k59 n)), (137, pk_X7_two_137 (g_X7_two_137 k59 (g_X7_two_74 k59 n)))]) (am_K1 (Wp := am_W p l e R s m args below meth c cells slots G 6 (Q r)) (pk_X7_two_59_ok (Wp := am_W p l e R s m args below meth c cells slots G 6 (Q r) 59) hk59) (am_K1 (Wp := am_W p l e R s m args below meth c cells slots G 6 (Q r)) (pk_X7_two_74_ok (Wp := am_W p l e R s m args below meth c cells slots G 6 (Q r) 74) ih) (am_K1 (Wp := am_W p l e R s m args below meth c cells slots G 6 (Q r)) (pk_X7_two_137_ok (Wp := am_W p l e R s m args below meth c cells slots G 6 (Q r) 137) (w_X7_two_137 CX hk59 ih)) am_K0))) 36 74 _ _ _ q
set_option maxRecDepth 20000 in
theorem w_X7_two_59 {p : Program} {l : Launch} {e : Env} {R : Room} {s : State} {m : MethodId} {args : Array Value} {below : List Frame} {meth : Method} {c : Code} {cells slots : Nat} {G : AG} {Q : (Int32 × HP) → State → Prop} (CX : am_X p l e R s m args below meth c cells slots G 6 cX7_two RX7 am_tb P_X7_two am_rI Q) {r : (Int32 × HP)} : ∀ (n : Nat) (a1 : Int32) (a2 : Int32) (a3 : Int32) (a4 : Int32) (w1 : AV) (h : HP), g_X7_two_59 n a1 a2 a3 a4 h = some r → am_W p l e R s m args below meth c cells slots G 6 (Q r) 59 [.inr (.inr (.inl (7, 0))), .inl a1, .inl a2, .inl a3, .inl a4, w1] [] h := by
  intro n
  induction n with
  | zero =>
    intro a1 a2 a3 a4 w1 h q
    have q9 : (none : Option (Int32 × HP)) = some r := q
    cases q9
  | succ n ih =>
    intro a1 a2 a3 a4 w1 h q
    exact am_run_ok CX ok_X7_two (K := [(74, pk_X7_two_74 (g_X7_two_74 (g_X7_two_59 n) am_fu))]) (am_K1 (Wp := am_W p l e R s m args below meth c cells slots G 6 (Q r)) (pk_X7_two_74_ok (Wp := am_W p l e R s m args below meth c cells slots G 6 (Q r) 74) (w_X7_two_74 CX ih am_fu)) am_K0) 12 59 _ _ _ q
set_option maxRecDepth 20000 in
theorem w_X7_two_15 {p : Program} {l : Launch} {e : Env} {R : Room} {s : State} {m : MethodId} {args : Array Value} {below : List Frame} {meth : Method} {c : Code} {cells slots : Nat} {G : AG} {Q : (Int32 × HP) → State → Prop} (CX : am_X p l e R s m args below meth c cells slots G 6 cX7_two RX7 am_tb P_X7_two am_rI Q) {r : (Int32 × HP)} : ∀ (w1 : Int32) (w2 : Int32) (h : HP), g_X7_two_15 h = some r → am_W p l e R s m args below meth c cells slots G 6 (Q r) 15 [.inr (.inr (.inl (7, 0))), .inl w1, .inl w2, .inr (.inr (.inr ())), .inr (.inr (.inr ())), .inr (.inr (.inr ()))] [] h := by
  intro w1 w2 h q
  exact am_run_ok CX ok_X7_two (K := []) (am_K0 (Wp := am_W p l e R s m args below meth c cells slots G 6 (Q r))) 7 15 _ _ _ q
set_option maxRecDepth 20000 in
theorem b_X7_two (l : Launch) (G : AG) : am_B l G 6 cX7_two RX7 am_tb P_X7_two am_rI fl_X7_two := by
  intro p e R s m args below meth c cells slots Q CX as h r q
  unfold fl_X7_two at q
  split at q
  · exact am_run_ok CX ok_X7_two (K := [(15, pk_X7_two_15 (g_X7_two_15)), (59, pk_X7_two_59 (g_X7_two_59 am_fu))]) (am_K1 (Wp := am_W p l e R s m args below meth c cells slots G 6 (Q r)) (pk_X7_two_15_ok (Wp := am_W p l e R s m args below meth c cells slots G 6 (Q r) 15) (w_X7_two_15 CX)) (am_K1 (Wp := am_W p l e R s m args below meth c cells slots G 6 (Q r)) (pk_X7_two_59_ok (Wp := am_W p l e R s m args below meth c cells slots G 6 (Q r) 59) (w_X7_two_59 CX am_fu)) am_K0)) 29 0 _ _ _ q
  · cases q
theorem s_X7_two : ∀ as h x, fl_X7_two as h = some x → (∀ k, (some 7 : Option Nat) = some k → ∃ (j : Nat) (as' : List AV), as = .inr (.inr (.inl (k, j))) :: as') ∧ (am_l0 as).length ≤ 6 := by
  intro as h x q
  unfold fl_X7_two at q
  split at q
  · exact ⟨fun k e => by cases e; exact ⟨_, _, rfl⟩, Nat.le_of_ble_eq_true rfl⟩
  · cases q
theorem M_X7_two (l : Launch) (G : AG) : am_M l G yX7_two cX7_two 6 (some .int) 8 182 (some 7) F_X7_two := am_M_of (f := fl_X7_two) (toR := fun x => (some (.inl x.1), x.2)) (P := P_X7_two) (Rr := am_rI) (own := RX7) (by decide) rfl (fun _ _ => rfl) s_X7_two am_wrI am_rkI pf_RX7 pk_RX7 ps_RX7 (List.forall_mem_cons.mpr ⟨cv_RX7_78 l G (by decide) (by decide), (List.forall_mem_cons.mpr ⟨cv_RX7_111 l G (by decide) (by decide), (List.forall_mem_cons.mpr ⟨cv_RX7_127 l G (by decide) (by decide), (List.forall_mem_cons.mpr ⟨cv_RX7_159 l G (by decide) (by decide), (List.forall_mem_cons.mpr ⟨cv_RX7_166 l G (by decide) (by decide), (List.forall_mem_cons.mpr ⟨cv_RX7_169 l G (by decide) (by decide), (fun _ q => by cases q)⟩)⟩)⟩)⟩)⟩)⟩) (List.forall_mem_cons.mpr ⟨cs_RX7_75 l G (by decide) (by decide), (fun _ q => by cases q)⟩) (fun _ q => by cases q) (b_X7_two l G)
def C_X7_meet : List AC := [(0, .aload_n 0, 1, []), (1, .iload_n 1, 2, []), (2, .invokevirtual 111, 5, []), (5, .ifCond .eq 16, 8, [21]), (8, .aload_n 0, 9, []), (9, .iload_n 2, 10, []), (10, .invokevirtual 111, 13, []), (13, .ifCond .eq 8, 16, [21]), (16, .iload_n 1, 17, []), (17, .iload_n 2, 18, []), (18, .if_icmp .ne 10, 21, [28]), (21, .aload_n 0, 22, []), (22, .ldc 41, 24, []), (24, .invokevirtual 78, 27, []), (27, .ireturn, 28, []), (28, .aload_n 0, 29, []), (29, .iconst 1, 30, []), (30, .aload_n 0, 31, []), (31, .getfield 16, 34, []), (34, .invokevirtual 159, 37, []), (37, .iconst 0, 38, []), (38, .istore_n 3, 39, []), (39, .iload_n 3, 40, []), (40, .bipush 60, 42, []), (42, .if_icmp .gt 27, 45, [69]), (45, .aload_n 0, 46, []), (46, .iload_n 1, 47, []), (47, .invokevirtual 156, 50, []), (50, .aload_n 0, 51, []), (51, .iload_n 2, 52, []), (52, .invokevirtual 156, 55, []), (55, .iand, 56, []), (56, .ifCond .ne 13, 59, [69]), (59, .aload_n 0, 60, []), (60, .invokevirtual 134, 63, []), (63, .iinc 3 1, 66, []), (66, .goto (-27), 69, [39]), (69, .aload_n 0, 70, []), (70, .iconst 0, 71, []), (71, .aload_n 0, 72, []), (72, .getfield 16, 75, []), (75, .invokevirtual 159, 78, []), (78, .iload_n 3, 79, []), (79, .bipush 60, 81, []), (81, .if_icmp .le 12, 84, [93]), (84, .aload_n 0, 85, []), (85, .ldc 100, 87, []), (87, .invokevirtual 78, 90, []), (90, .goto 4, 93, [94]), (93, .iload_n 3, 94, []), (94, .ireturn, 95, [])]
theorem ok_X7_meet : ∀ x ∈ C_X7_meet, am_ok cX7_meet 4 x = true := by decide +kernel
noncomputable def P_X7_meet : AP := (PF_RX7, PK_RX7, PS_RX7, [(78, 2, F_X7_finds), (111, 2, F_X7_isMember), (134, 1, F_X7_oneDay), (156, 2, F_X7_reachOf), (159, 3, F_X7_moveAll)], [], [])
noncomputable def g_X7_meet_69 (a1 : Int32) (h : HP) : Option (Int32 × HP) := (f_X7_moveAll 0 2 h).bind (fun q_1 => if a1 ≤ (60 : Int32) then (some (a1, q_1)) else ((f_X7_finds ((-1000000004)) q_1).bind (fun q_2 => some (q_2.1, q_2.2))))
def pk_X7_meet_69 (k : Int32 → HP → Option (Int32 × HP)) : List AV → List AV → HP → Option (Int32 × HP) := fun L st h => match L, st with
  | [.inr (.inr (.inl (7, 0))), .inl _, .inl _, .inl a1], [] => k a1 h
  | _, _ => none
theorem pk_X7_meet_69_ok {Wp : List AV → List AV → HP → Prop} {r : (Int32 × HP)} {k : Int32 → HP → Option (Int32 × HP)} (hk : ∀ (a1 : Int32) (w1 : Int32) (w2 : Int32) (h : HP), k a1 h = some r → Wp [.inr (.inr (.inl (7, 0))), .inl w1, .inl w2, .inl a1] [] h) : ∀ L st h, pk_X7_meet_69 k L st h = some r → Wp L st h := by
  intro L st h q
  unfold pk_X7_meet_69 at q
  split at q
  · exact hk _ _ _ _ q
  · cases q
noncomputable def g_X7_meet_39  : Nat → Int32 → Int32 → Int32 → HP → Option (Int32 × HP)
  | 0, _, _, _, _ => none
  | n + 1, a1, a2, a3, h => if (60 : Int32) < a3 then (g_X7_meet_69 a3 h) else ((f_X7_reachOf a1 h).bind (fun q_1 => (f_X7_reachOf a2 q_1.2).bind (fun q_2 => if q_1.1 &&& q_2.1 = (0 : Int32) then ((f_X7_oneDay q_2.2).bind (fun q_3 => g_X7_meet_39 n a1 a2 (a3 + 1) q_3)) else (g_X7_meet_69 a3 q_2.2))))
def pk_X7_meet_39 (k : Int32 → Int32 → Int32 → HP → Option (Int32 × HP)) : List AV → List AV → HP → Option (Int32 × HP) := fun L st h => match L, st with
  | [.inr (.inr (.inl (7, 0))), .inl a1, .inl a2, .inl a3], [] => k a1 a2 a3 h
  | _, _ => none
theorem pk_X7_meet_39_ok {Wp : List AV → List AV → HP → Prop} {r : (Int32 × HP)} {k : Int32 → Int32 → Int32 → HP → Option (Int32 × HP)} (hk : ∀ (a1 : Int32) (a2 : Int32) (a3 : Int32) (h : HP), k a1 a2 a3 h = some r → Wp [.inr (.inr (.inl (7, 0))), .inl a1, .inl a2, .inl a3] [] h) : ∀ L st h, pk_X7_meet_39 k L st h = some r → Wp L st h := by
  intro L st h q
  unfold pk_X7_meet_39 at q
  split at q
  · exact hk _ _ _ _ q
  · cases q
noncomputable def g_X7_meet_21  (h : HP) : Option (Int32 × HP) := (f_X7_finds ((-1000000001)) h).bind (fun q_1 => some (q_1.1, q_1.2))
def pk_X7_meet_21 (k : HP → Option (Int32 × HP)) : List AV → List AV → HP → Option (Int32 × HP) := fun L st h => match L, st with
  | [.inr (.inr (.inl (7, 0))), .inl _, .inl _, .inr (.inr (.inr ()))], [] => k h
  | _, _ => none
theorem pk_X7_meet_21_ok {Wp : List AV → List AV → HP → Prop} {r : (Int32 × HP)} {k : HP → Option (Int32 × HP)} (hk : ∀ (w1 : Int32) (w2 : Int32) (h : HP), k h = some r → Wp [.inr (.inr (.inl (7, 0))), .inl w1, .inl w2, .inr (.inr (.inr ()))] [] h) : ∀ L st h, pk_X7_meet_21 k L st h = some r → Wp L st h := by
  intro L st h q
  unfold pk_X7_meet_21 at q
  split at q
  · exact hk _ _ _ q
  · cases q
noncomputable def f_X7_meet (a1 : Int32) (a2 : Int32) (h : HP) : Option (Int32 × HP) := (f_X7_isMember a1 h).bind (fun q_1 => if q_1.1 = (0 : Int32) then (g_X7_meet_21 q_1.2) else ((f_X7_isMember a2 q_1.2).bind (fun q_2 => if q_2.1 = (0 : Int32) then (g_X7_meet_21 q_2.2) else (if a1 = a2 then (g_X7_meet_21 q_2.2) else ((f_X7_moveAll 1 2 q_2.2).bind (fun q_3 => g_X7_meet_39 am_fu a1 a2 0 q_3))))))
noncomputable def fl_X7_meet : List AV → HP → Option (Int32 × HP) := fun as h => match as with
  | [.inr (.inr (.inl (7, 0))), .inl a1, .inl a2] => f_X7_meet a1 a2 h
  | _ => none
noncomputable def F_X7_meet : AF := .inl fl_X7_meet
set_option maxRecDepth 20000 in
theorem w_X7_meet_69 {p : Program} {l : Launch} {e : Env} {R : Room} {s : State} {m : MethodId} {args : Array Value} {below : List Frame} {meth : Method} {c : Code} {cells slots : Nat} {G : AG} {Q : (Int32 × HP) → State → Prop} (CX : am_X p l e R s m args below meth c cells slots G 4 cX7_meet RX7 am_tb P_X7_meet am_rI Q) {r : (Int32 × HP)} : ∀ (a1 : Int32) (w1 : Int32) (w2 : Int32) (h : HP), g_X7_meet_69 a1 h = some r → am_W p l e R s m args below meth c cells slots G 4 (Q r) 69 [.inr (.inr (.inl (7, 0))), .inl w1, .inl w2, .inl a1] [] h := by
  intro a1 w1 w2 h q
  exact am_run_ok CX ok_X7_meet (K := []) (am_K0 (Wp := am_W p l e R s m args below meth c cells slots G 4 (Q r))) 16 69 _ _ _ q
set_option maxRecDepth 20000 in
theorem w_X7_meet_39 {p : Program} {l : Launch} {e : Env} {R : Room} {s : State} {m : MethodId} {args : Array Value} {below : List Frame} {meth : Method} {c : Code} {cells slots : Nat} {G : AG} {Q : (Int32 × HP) → State → Prop} (CX : am_X p l e R s m args below meth c cells slots G 4 cX7_meet RX7 am_tb P_X7_meet am_rI Q) {r : (Int32 × HP)} : ∀ (n : Nat) (a1 : Int32) (a2 : Int32) (a3 : Int32) (h : HP), g_X7_meet_39 n a1 a2 a3 h = some r → am_W p l e R s m args below meth c cells slots G 4 (Q r) 39 [.inr (.inr (.inl (7, 0))), .inl a1, .inl a2, .inl a3] [] h := by
  intro n
  induction n with
  | zero =>
    intro a1 a2 a3 h q
    have q9 : (none : Option (Int32 × HP)) = some r := q
    cases q9
  | succ n ih =>
    intro a1 a2 a3 h q
    exact am_run_ok CX ok_X7_meet (K := [(69, pk_X7_meet_69 (g_X7_meet_69)), (39, pk_X7_meet_39 (g_X7_meet_39 n))]) (am_K1 (Wp := am_W p l e R s m args below meth c cells slots G 4 (Q r)) (pk_X7_meet_69_ok (Wp := am_W p l e R s m args below meth c cells slots G 4 (Q r) 69) (w_X7_meet_69 CX)) (am_K1 (Wp := am_W p l e R s m args below meth c cells slots G 4 (Q r)) (pk_X7_meet_39_ok (Wp := am_W p l e R s m args below meth c cells slots G 4 (Q r) 39) ih) am_K0)) 18 39 _ _ _ q
set_option maxRecDepth 20000 in
theorem w_X7_meet_21 {p : Program} {l : Launch} {e : Env} {R : Room} {s : State} {m : MethodId} {args : Array Value} {below : List Frame} {meth : Method} {c : Code} {cells slots : Nat} {G : AG} {Q : (Int32 × HP) → State → Prop} (CX : am_X p l e R s m args below meth c cells slots G 4 cX7_meet RX7 am_tb P_X7_meet am_rI Q) {r : (Int32 × HP)} : ∀ (w1 : Int32) (w2 : Int32) (h : HP), g_X7_meet_21 h = some r → am_W p l e R s m args below meth c cells slots G 4 (Q r) 21 [.inr (.inr (.inl (7, 0))), .inl w1, .inl w2, .inr (.inr (.inr ()))] [] h := by
  intro w1 w2 h q
  exact am_run_ok CX ok_X7_meet (K := []) (am_K0 (Wp := am_W p l e R s m args below meth c cells slots G 4 (Q r))) 7 21 _ _ _ q
set_option maxRecDepth 20000 in
theorem b_X7_meet (l : Launch) (G : AG) : am_B l G 4 cX7_meet RX7 am_tb P_X7_meet am_rI fl_X7_meet := by
  intro p e R s m args below meth c cells slots Q CX as h r q
  unfold fl_X7_meet at q
  split at q
  · exact am_run_ok CX ok_X7_meet (K := [(21, pk_X7_meet_21 (g_X7_meet_21)), (39, pk_X7_meet_39 (g_X7_meet_39 am_fu))]) (am_K1 (Wp := am_W p l e R s m args below meth c cells slots G 4 (Q r)) (pk_X7_meet_21_ok (Wp := am_W p l e R s m args below meth c cells slots G 4 (Q r) 21) (w_X7_meet_21 CX)) (am_K1 (Wp := am_W p l e R s m args below meth c cells slots G 4 (Q r)) (pk_X7_meet_39_ok (Wp := am_W p l e R s m args below meth c cells slots G 4 (Q r) 39) (w_X7_meet_39 CX am_fu)) am_K0)) 21 0 _ _ _ q
  · cases q
theorem s_X7_meet : ∀ as h x, fl_X7_meet as h = some x → (∀ k, (some 7 : Option Nat) = some k → ∃ (j : Nat) (as' : List AV), as = .inr (.inr (.inl (k, j))) :: as') ∧ (am_l0 as).length ≤ 4 := by
  intro as h x q
  unfold fl_X7_meet at q
  split at q
  · exact ⟨fun k e => by cases e; exact ⟨_, _, rfl⟩, Nat.le_of_ble_eq_true rfl⟩
  · cases q
theorem M_X7_meet (l : Launch) (G : AG) : am_M l G yX7_meet cX7_meet 4 (some .int) 7 160 (some 7) F_X7_meet := am_M_of (f := fl_X7_meet) (toR := fun x => (some (.inl x.1), x.2)) (P := P_X7_meet) (Rr := am_rI) (own := RX7) (by decide) rfl (fun _ _ => rfl) s_X7_meet am_wrI am_rkI pf_RX7 pk_RX7 ps_RX7 (List.forall_mem_cons.mpr ⟨cv_RX7_78 l G (by decide) (by decide), (List.forall_mem_cons.mpr ⟨cv_RX7_111 l G (by decide) (by decide), (List.forall_mem_cons.mpr ⟨cv_RX7_134 l G (by decide) (by decide), (List.forall_mem_cons.mpr ⟨cv_RX7_156 l G (by decide) (by decide), (List.forall_mem_cons.mpr ⟨cv_RX7_159 l G (by decide) (by decide), (fun _ q => by cases q)⟩)⟩)⟩)⟩)⟩) (fun _ q => by cases q) (fun _ q => by cases q) (b_X7_meet l G)
def C_X7_kind : List AC := [(0, .aload_n 0, 1, []), (1, .iload_n 1, 2, []), (2, .invokevirtual 111, 5, []), (5, .ifCond .eq 11, 8, [16]), (8, .aload_n 0, 9, []), (9, .iload_n 2, 10, []), (10, .invokevirtual 86, 13, []), (13, .ifCond .ne 10, 16, [23]), (16, .aload_n 0, 17, []), (17, .ldc 41, 19, []), (19, .invokevirtual 78, 22, []), (22, .ireturn, 23, []), (23, .aload_n 0, 24, []), (24, .iload_n 2, 25, []), (25, .iconst 4, 26, []), (26, .invokevirtual 46, 29, []), (29, .iload_n 1, 30, []), (30, .if_icmp .eq 10, 33, [40]), (33, .aload_n 0, 34, []), (34, .ldc 126, 36, []), (36, .invokevirtual 78, 39, []), (39, .ireturn, 40, []), (40, .aload_n 0, 41, []), (41, .iload_n 2, 42, []), (42, .iconst 0, 43, []), (43, .invokevirtual 46, 46, []), (46, .istore_n 3, 47, []), (47, .iconst 0, 48, []), (48, .istore 4, 50, []), (50, .iconst (-1), 51, []), (51, .istore 5, 53, []), (53, .iconst 0, 54, []), (54, .istore 6, 56, []), (56, .iload 6, 58, []), (58, .iconst 5, 59, []), (59, .if_icmp .gt 59, 62, [118]), (62, .aload_n 0, 63, []), (63, .iload_n 2, 64, []), (64, .iconst 0, 65, []), (65, .iload 6, 67, []), (67, .invokevirtual 68, 70, []), (70, .aload_n 0, 71, []), (71, .iload_n 1, 72, []), (72, .invokevirtual 156, 75, []), (75, .invokestatic 120, 78, []), (78, .istore 7, 80, []), (80, .iload 7, 82, []), (82, .iload 5, 84, []), (84, .if_icmp .le 8, 87, [92]), (87, .iload 6, 89, []), (89, .goto 5, 92, [94]), (92, .iload 4, 94, []), (94, .istore 4, 96, []), (96, .iload 7, 98, []), (98, .iload 5, 100, []), (100, .if_icmp .le 8, 103, [108]), (103, .iload 7, 105, []), (105, .goto 5, 108, [110]), (108, .iload 5, 110, []), (110, .istore 5, 112, []), (112, .iinc 6 1, 115, []), (115, .goto (-59), 118, [56]), (118, .aload_n 0, 119, []), (119, .iload_n 2, 120, []), (120, .iconst 0, 121, []), (121, .iload_n 3, 122, []), (122, .invokevirtual 68, 125, []), (125, .iload 4, 127, []), (127, .ireturn, 128, [])]
theorem ok_X7_kind : ∀ x ∈ C_X7_kind, am_ok cX7_kind 8 x = true := by decide +kernel
noncomputable def P_X7_kind : AP := (PF_RX7, PK_RX7, PS_RX7, [(46, 3, F_X7_its), (68, 4, F_X7_puts), (78, 2, F_X7_finds), (86, 2, F_X7_isOne), (111, 2, F_X7_isMember), (156, 2, F_X7_reachOf)], [(120, 1, F_X7_bits)], [])
noncomputable def g_X7_kind_94 (k56 : Int32 → Int32 → Int32 → Int32 → Int32 → Int32 → HP → Option (Int32 × HP)) (a1 : Int32) (a2 : Int32) (a3 : Int32) (a4 : Int32) (a5 : Int32) (a6 : Int32) (a7 : Int32) (h : HP) : Option (Int32 × HP) := if a6 ≤ a4 then (k56 a1 a2 a3 a7 a4 (a5 + 1) h) else (k56 a1 a2 a3 a7 a6 (a5 + 1) h)
def pk_X7_kind_94 (k : Int32 → Int32 → Int32 → Int32 → Int32 → Int32 → Int32 → HP → Option (Int32 × HP)) : List AV → List AV → HP → Option (Int32 × HP) := fun L st h => match L, st with
  | [.inr (.inr (.inl (7, 0))), .inl a1, .inl a2, .inl a3, .inl _, .inl a4, .inl a5, .inl a6], [.inl a7] => k a1 a2 a3 a4 a5 a6 a7 h
  | _, _ => none
theorem pk_X7_kind_94_ok {Wp : List AV → List AV → HP → Prop} {r : (Int32 × HP)} {k : Int32 → Int32 → Int32 → Int32 → Int32 → Int32 → Int32 → HP → Option (Int32 × HP)} (hk : ∀ (a1 : Int32) (a2 : Int32) (a3 : Int32) (a4 : Int32) (a5 : Int32) (a6 : Int32) (a7 : Int32) (w1 : Int32) (h : HP), k a1 a2 a3 a4 a5 a6 a7 h = some r → Wp [.inr (.inr (.inl (7, 0))), .inl a1, .inl a2, .inl a3, .inl w1, .inl a4, .inl a5, .inl a6] [.inl a7] h) : ∀ L st h, pk_X7_kind_94 k L st h = some r → Wp L st h := by
  intro L st h q
  unfold pk_X7_kind_94 at q
  split at q
  · exact hk _ _ _ _ _ _ _ _ _ q
  · cases q
noncomputable def g_X7_kind_56  : Nat → Int32 → Int32 → Int32 → Int32 → Int32 → Int32 → HP → Option (Int32 × HP)
  | 0, _, _, _, _, _, _, _ => none
  | n + 1, a1, a2, a3, a4, a5, a6, h => if (5 : Int32) < a6 then ((f_X7_puts a2 0 a3 h).bind (fun q_1 => some (a4, q_1))) else ((f_X7_puts a2 0 a6 h).bind (fun q_2 => (f_X7_reachOf a1 q_2).bind (fun q_3 => (f_X7_bits q_3.1 q_3.2).bind (fun q_4 => if q_4.1 ≤ a5 then (g_X7_kind_94 (g_X7_kind_56 n) a1 a2 a3 a5 a6 q_4.1 a4 q_4.2) else (g_X7_kind_94 (g_X7_kind_56 n) a1 a2 a3 a5 a6 q_4.1 a6 q_4.2)))))
def pk_X7_kind_56 (k : Int32 → Int32 → Int32 → Int32 → Int32 → Int32 → HP → Option (Int32 × HP)) : List AV → List AV → HP → Option (Int32 × HP) := fun L st h => match L, st with
  | [.inr (.inr (.inl (7, 0))), .inl a1, .inl a2, .inl a3, .inl a4, .inl a5, .inl a6, _], [] => k a1 a2 a3 a4 a5 a6 h
  | _, _ => none
theorem pk_X7_kind_56_ok {Wp : List AV → List AV → HP → Prop} {r : (Int32 × HP)} {k : Int32 → Int32 → Int32 → Int32 → Int32 → Int32 → HP → Option (Int32 × HP)} (hk : ∀ (a1 : Int32) (a2 : Int32) (a3 : Int32) (a4 : Int32) (a5 : Int32) (a6 : Int32) (w1 : AV) (h : HP), k a1 a2 a3 a4 a5 a6 h = some r → Wp [.inr (.inr (.inl (7, 0))), .inl a1, .inl a2, .inl a3, .inl a4, .inl a5, .inl a6, w1] [] h) : ∀ L st h, pk_X7_kind_56 k L st h = some r → Wp L st h := by
  intro L st h q
  unfold pk_X7_kind_56 at q
  split at q
  · exact hk _ _ _ _ _ _ _ _ q
  · cases q
noncomputable def g_X7_kind_16  (h : HP) : Option (Int32 × HP) := (f_X7_finds ((-1000000001)) h).bind (fun q_1 => some (q_1.1, q_1.2))
def pk_X7_kind_16 (k : HP → Option (Int32 × HP)) : List AV → List AV → HP → Option (Int32 × HP) := fun L st h => match L, st with
  | [.inr (.inr (.inl (7, 0))), .inl _, .inl _, .inr (.inr (.inr ())), .inr (.inr (.inr ())), .inr (.inr (.inr ())), .inr (.inr (.inr ())), .inr (.inr (.inr ()))], [] => k h
  | _, _ => none
theorem pk_X7_kind_16_ok {Wp : List AV → List AV → HP → Prop} {r : (Int32 × HP)} {k : HP → Option (Int32 × HP)} (hk : ∀ (w1 : Int32) (w2 : Int32) (h : HP), k h = some r → Wp [.inr (.inr (.inl (7, 0))), .inl w1, .inl w2, .inr (.inr (.inr ())), .inr (.inr (.inr ())), .inr (.inr (.inr ())), .inr (.inr (.inr ())), .inr (.inr (.inr ()))] [] h) : ∀ L st h, pk_X7_kind_16 k L st h = some r → Wp L st h := by
  intro L st h q
  unfold pk_X7_kind_16 at q
  split at q
  · exact hk _ _ _ q
  · cases q
noncomputable def f_X7_kind (a1 : Int32) (a2 : Int32) (h : HP) : Option (Int32 × HP) := (f_X7_isMember a1 h).bind (fun q_1 => if q_1.1 = (0 : Int32) then (g_X7_kind_16 q_1.2) else ((f_X7_isOne a2 q_1.2).bind (fun q_2 => if q_2.1 = (0 : Int32) then (g_X7_kind_16 q_2.2) else ((f_X7_its a2 4 q_2.2).bind (fun q_3 => if q_3.1 = a1 then ((f_X7_its a2 0 q_3.2).bind (fun q_4 => g_X7_kind_56 am_fu a1 a2 q_4.1 0 ((-1)) 0 q_4.2)) else ((f_X7_finds ((-1000000005)) q_3.2).bind (fun q_5 => some (q_5.1, q_5.2))))))))
noncomputable def fl_X7_kind : List AV → HP → Option (Int32 × HP) := fun as h => match as with
  | [.inr (.inr (.inl (7, 0))), .inl a1, .inl a2] => f_X7_kind a1 a2 h
  | _ => none
noncomputable def F_X7_kind : AF := .inl fl_X7_kind
set_option maxRecDepth 20000 in
theorem w_X7_kind_94 {p : Program} {l : Launch} {e : Env} {R : Room} {s : State} {m : MethodId} {args : Array Value} {below : List Frame} {meth : Method} {c : Code} {cells slots : Nat} {G : AG} {Q : (Int32 × HP) → State → Prop} (CX : am_X p l e R s m args below meth c cells slots G 8 cX7_kind RX7 am_tb P_X7_kind am_rI Q) {r : (Int32 × HP)} {k56 : Int32 → Int32 → Int32 → Int32 → Int32 → Int32 → HP → Option (Int32 × HP)} (hk56 : ∀ (a1 : Int32) (a2 : Int32) (a3 : Int32) (a4 : Int32) (a5 : Int32) (a6 : Int32) (w1 : AV) (h : HP), k56 a1 a2 a3 a4 a5 a6 h = some r → am_W p l e R s m args below meth c cells slots G 8 (Q r) 56 [.inr (.inr (.inl (7, 0))), .inl a1, .inl a2, .inl a3, .inl a4, .inl a5, .inl a6, w1] [] h) : ∀ (a1 : Int32) (a2 : Int32) (a3 : Int32) (a4 : Int32) (a5 : Int32) (a6 : Int32) (a7 : Int32) (w1 : Int32) (h : HP), g_X7_kind_94 k56 a1 a2 a3 a4 a5 a6 a7 h = some r → am_W p l e R s m args below meth c cells slots G 8 (Q r) 94 [.inr (.inr (.inl (7, 0))), .inl a1, .inl a2, .inl a3, .inl w1, .inl a4, .inl a5, .inl a6] [.inl a7] h := by
  intro a1 a2 a3 a4 a5 a6 a7 w1 h q
  exact am_run_ok CX ok_X7_kind (K := [(56, pk_X7_kind_56 (k56))]) (am_K1 (Wp := am_W p l e R s m args below meth c cells slots G 8 (Q r)) (pk_X7_kind_56_ok (Wp := am_W p l e R s m args below meth c cells slots G 8 (Q r) 56) hk56) am_K0) 12 94 _ _ _ q
set_option maxRecDepth 20000 in
theorem w_X7_kind_56 {p : Program} {l : Launch} {e : Env} {R : Room} {s : State} {m : MethodId} {args : Array Value} {below : List Frame} {meth : Method} {c : Code} {cells slots : Nat} {G : AG} {Q : (Int32 × HP) → State → Prop} (CX : am_X p l e R s m args below meth c cells slots G 8 cX7_kind RX7 am_tb P_X7_kind am_rI Q) {r : (Int32 × HP)} : ∀ (n : Nat) (a1 : Int32) (a2 : Int32) (a3 : Int32) (a4 : Int32) (a5 : Int32) (a6 : Int32) (w1 : AV) (h : HP), g_X7_kind_56 n a1 a2 a3 a4 a5 a6 h = some r → am_W p l e R s m args below meth c cells slots G 8 (Q r) 56 [.inr (.inr (.inl (7, 0))), .inl a1, .inl a2, .inl a3, .inl a4, .inl a5, .inl a6, w1] [] h := by
  intro n
  induction n with
  | zero =>
    intro a1 a2 a3 a4 a5 a6 w1 h q
    have q9 : (none : Option (Int32 × HP)) = some r := q
    cases q9
  | succ n ih =>
    intro a1 a2 a3 a4 a5 a6 w1 h q
    exact am_run_ok CX ok_X7_kind (K := [(94, pk_X7_kind_94 (g_X7_kind_94 (g_X7_kind_56 n)))]) (am_K1 (Wp := am_W p l e R s m args below meth c cells slots G 8 (Q r)) (pk_X7_kind_94_ok (Wp := am_W p l e R s m args below meth c cells slots G 8 (Q r) 94) (w_X7_kind_94 CX ih)) am_K0) 21 56 _ _ _ q
set_option maxRecDepth 20000 in
theorem w_X7_kind_16 {p : Program} {l : Launch} {e : Env} {R : Room} {s : State} {m : MethodId} {args : Array Value} {below : List Frame} {meth : Method} {c : Code} {cells slots : Nat} {G : AG} {Q : (Int32 × HP) → State → Prop} (CX : am_X p l e R s m args below meth c cells slots G 8 cX7_kind RX7 am_tb P_X7_kind am_rI Q) {r : (Int32 × HP)} : ∀ (w1 : Int32) (w2 : Int32) (h : HP), g_X7_kind_16 h = some r → am_W p l e R s m args below meth c cells slots G 8 (Q r) 16 [.inr (.inr (.inl (7, 0))), .inl w1, .inl w2, .inr (.inr (.inr ())), .inr (.inr (.inr ())), .inr (.inr (.inr ())), .inr (.inr (.inr ())), .inr (.inr (.inr ()))] [] h := by
  intro w1 w2 h q
  exact am_run_ok CX ok_X7_kind (K := []) (am_K0 (Wp := am_W p l e R s m args below meth c cells slots G 8 (Q r))) 7 16 _ _ _ q
set_option maxRecDepth 20000 in
theorem b_X7_kind (l : Launch) (G : AG) : am_B l G 8 cX7_kind RX7 am_tb P_X7_kind am_rI fl_X7_kind := by
  intro p e R s m args below meth c cells slots Q CX as h r q
  unfold fl_X7_kind at q
  split at q
  · exact am_run_ok CX ok_X7_kind (K := [(16, pk_X7_kind_16 (g_X7_kind_16)), (56, pk_X7_kind_56 (g_X7_kind_56 am_fu))]) (am_K1 (Wp := am_W p l e R s m args below meth c cells slots G 8 (Q r)) (pk_X7_kind_16_ok (Wp := am_W p l e R s m args below meth c cells slots G 8 (Q r) 16) (w_X7_kind_16 CX)) (am_K1 (Wp := am_W p l e R s m args below meth c cells slots G 8 (Q r)) (pk_X7_kind_56_ok (Wp := am_W p l e R s m args below meth c cells slots G 8 (Q r) 56) (w_X7_kind_56 CX am_fu)) am_K0)) 28 0 _ _ _ q
  · cases q
theorem s_X7_kind : ∀ as h x, fl_X7_kind as h = some x → (∀ k, (some 7 : Option Nat) = some k → ∃ (j : Nat) (as' : List AV), as = .inr (.inr (.inl (k, j))) :: as') ∧ (am_l0 as).length ≤ 8 := by
  intro as h x q
  unfold fl_X7_kind at q
  split at q
  · exact ⟨fun k e => by cases e; exact ⟨_, _, rfl⟩, Nat.le_of_ble_eq_true rfl⟩
  · cases q
theorem M_X7_kind (l : Launch) (G : AG) : am_M l G yX7_kind cX7_kind 8 (some .int) 7 160 (some 7) F_X7_kind := am_M_of (f := fl_X7_kind) (toR := fun x => (some (.inl x.1), x.2)) (P := P_X7_kind) (Rr := am_rI) (own := RX7) (by decide) rfl (fun _ _ => rfl) s_X7_kind am_wrI am_rkI pf_RX7 pk_RX7 ps_RX7 (List.forall_mem_cons.mpr ⟨cv_RX7_46 l G (by decide) (by decide), (List.forall_mem_cons.mpr ⟨cv_RX7_68 l G (by decide) (by decide), (List.forall_mem_cons.mpr ⟨cv_RX7_78 l G (by decide) (by decide), (List.forall_mem_cons.mpr ⟨cv_RX7_86 l G (by decide) (by decide), (List.forall_mem_cons.mpr ⟨cv_RX7_111 l G (by decide) (by decide), (List.forall_mem_cons.mpr ⟨cv_RX7_156 l G (by decide) (by decide), (fun _ q => by cases q)⟩)⟩)⟩)⟩)⟩)⟩) (List.forall_mem_cons.mpr ⟨cs_RX7_120 l G (by decide) (by decide), (fun _ q => by cases q)⟩) (fun _ q => by cases q) (b_X7_kind l G)
def C_X7_least : List AC := [(0, .aload_n 0, 1, []), (1, .iload_n 1, 2, []), (2, .invokevirtual 111, 5, []), (5, .ifCond .eq 13, 8, [18]), (8, .iload_n 2, 9, []), (9, .iconst 0, 10, []), (10, .bipush 60, 12, []), (12, .invokestatic 42, 15, []), (15, .ifCond .ne 10, 18, [25]), (18, .aload_n 0, 19, []), (19, .ldc 41, 21, []), (21, .invokevirtual 78, 24, []), (24, .ireturn, 25, []), (25, .aload_n 0, 26, []), (26, .iconst 1, 27, []), (27, .aload_n 0, 28, []), (28, .getfield 16, 31, []), (31, .invokevirtual 159, 34, []), (34, .aload_n 0, 35, []), (35, .iload_n 1, 36, []), (36, .iconst 1, 37, []), (37, .invokevirtual 108, 40, []), (40, .istore_n 3, 41, []), (41, .iconst 0, 42, []), (42, .istore 4, 44, []), (44, .iconst 0, 45, []), (45, .istore 5, 47, []), (47, .iload 4, 49, []), (49, .bipush 30, 51, []), (51, .if_icmp .gt 65, 54, [116]), (54, .iload 5, 56, []), (56, .ifCond .ne 60, 59, [116]), (59, .aload_n 0, 60, []), (60, .getfield 7, 63, []), (63, .iconst 1, 64, []), (64, .iload 4, 66, []), (66, .iastore, 67, []), (67, .aload_n 0, 68, []), (68, .iload_n 2, 69, []), (69, .invokevirtual 137, 72, []), (72, .aload_n 0, 73, []), (73, .iload_n 1, 74, []), (74, .iconst 1, 75, []), (75, .invokevirtual 108, 78, []), (78, .iload_n 3, 79, []), (79, .if_icmp .gt 7, 82, [86]), (82, .iconst 1, 83, []), (83, .goto 4, 86, [87]), (86, .iconst 0, 87, []), (87, .istore 5, 89, []), (89, .aload_n 0, 90, []), (90, .iconst 0, 91, []), (91, .aload_n 0, 92, []), (92, .getfield 16, 95, []), (95, .invokevirtual 159, 98, []), (98, .iload 4, 100, []), (100, .iload 5, 102, []), (102, .ifCond .eq 7, 105, [109]), (105, .iconst 0, 106, []), (106, .goto 4, 109, [110]), (109, .iconst 1, 110, []), (110, .iadd, 111, []), (111, .istore 4, 113, []), (113, .goto (-66), 116, [47]), (116, .iload 5, 118, []), (118, .ifCond .eq 8, 121, [126]), (121, .iload 4, 123, []), (123, .goto 9, 126, [132]), (126, .aload_n 0, 127, []), (127, .ldc 100, 129, []), (129, .invokevirtual 78, 132, []), (132, .ireturn, 133, [])]
theorem ok_X7_least : ∀ x ∈ C_X7_least, am_ok cX7_least 6 x = true := by decide +kernel
noncomputable def P_X7_least : AP := (PF_RX7, PK_RX7, PS_RX7, [(78, 2, F_X7_finds), (108, 3, F_X7_whose), (111, 2, F_X7_isMember), (137, 2, F_X7_passes), (159, 3, F_X7_moveAll)], [(42, 3, F_X7_in)], [])
noncomputable def g_X7_least_116 (a1 : Int32) (a2 : Int32) (h : HP) : Option (Int32 × HP) := if a2 = (0 : Int32) then ((f_X7_finds ((-1000000004)) h).bind (fun q_1 => some (q_1.1, q_1.2))) else (some (a1, h))
def pk_X7_least_116 (k : Int32 → Int32 → HP → Option (Int32 × HP)) : List AV → List AV → HP → Option (Int32 × HP) := fun L st h => match L, st with
  | [.inr (.inr (.inl (7, 0))), .inl _, .inl _, .inl _, .inl a1, .inl a2], [] => k a1 a2 h
  | _, _ => none
theorem pk_X7_least_116_ok {Wp : List AV → List AV → HP → Prop} {r : (Int32 × HP)} {k : Int32 → Int32 → HP → Option (Int32 × HP)} (hk : ∀ (a1 : Int32) (a2 : Int32) (w1 : Int32) (w2 : Int32) (w3 : Int32) (h : HP), k a1 a2 h = some r → Wp [.inr (.inr (.inl (7, 0))), .inl w1, .inl w2, .inl w3, .inl a1, .inl a2] [] h) : ∀ L st h, pk_X7_least_116 k L st h = some r → Wp L st h := by
  intro L st h q
  unfold pk_X7_least_116 at q
  split at q
  · exact hk _ _ _ _ _ _ q
  · cases q
noncomputable def g_X7_least_87 (k47 : Int32 → Int32 → Int32 → Int32 → Int32 → HP → Option (Int32 × HP)) (a1 : Int32) (a2 : Int32) (a3 : Int32) (a4 : Int32) (a5 : Int32) (h : HP) : Option (Int32 × HP) := (f_X7_moveAll 0 2 h).bind (fun q_1 => if a5 = (0 : Int32) then (k47 a1 a2 a3 (a4 + 1) a5 q_1) else (k47 a1 a2 a3 (a4 + 0) a5 q_1))
def pk_X7_least_87 (k : Int32 → Int32 → Int32 → Int32 → Int32 → HP → Option (Int32 × HP)) : List AV → List AV → HP → Option (Int32 × HP) := fun L st h => match L, st with
  | [.inr (.inr (.inl (7, 0))), .inl a1, .inl a2, .inl a3, .inl a4, .inl _], [.inl a5] => k a1 a2 a3 a4 a5 h
  | _, _ => none
theorem pk_X7_least_87_ok {Wp : List AV → List AV → HP → Prop} {r : (Int32 × HP)} {k : Int32 → Int32 → Int32 → Int32 → Int32 → HP → Option (Int32 × HP)} (hk : ∀ (a1 : Int32) (a2 : Int32) (a3 : Int32) (a4 : Int32) (a5 : Int32) (w1 : Int32) (h : HP), k a1 a2 a3 a4 a5 h = some r → Wp [.inr (.inr (.inl (7, 0))), .inl a1, .inl a2, .inl a3, .inl a4, .inl w1] [.inl a5] h) : ∀ L st h, pk_X7_least_87 k L st h = some r → Wp L st h := by
  intro L st h q
  unfold pk_X7_least_87 at q
  split at q
  · exact hk _ _ _ _ _ _ _ q
  · cases q
noncomputable def g_X7_least_47  : Nat → Int32 → Int32 → Int32 → Int32 → Int32 → HP → Option (Int32 × HP)
  | 0, _, _, _, _, _, _ => none
  | n + 1, a1, a2, a3, a4, a5, h => if (30 : Int32) < a4 then (g_X7_least_116 a4 a5 h) else (if a5 = (0 : Int32) then ((am_ix (1 : Int32) 64).bind (fun k_1 => (f_X7_passes a2 (h_wI h 13 0 k_1 a4)).bind (fun q_2 => (f_X7_whose a1 1 q_2).bind (fun q_3 => if a3 < q_3.1 then (g_X7_least_87 (g_X7_least_47 n) a1 a2 a3 a4 0 q_3.2) else (g_X7_least_87 (g_X7_least_47 n) a1 a2 a3 a4 1 q_3.2))))) else (g_X7_least_116 a4 a5 h))
def pk_X7_least_47 (k : Int32 → Int32 → Int32 → Int32 → Int32 → HP → Option (Int32 × HP)) : List AV → List AV → HP → Option (Int32 × HP) := fun L st h => match L, st with
  | [.inr (.inr (.inl (7, 0))), .inl a1, .inl a2, .inl a3, .inl a4, .inl a5], [] => k a1 a2 a3 a4 a5 h
  | _, _ => none
theorem pk_X7_least_47_ok {Wp : List AV → List AV → HP → Prop} {r : (Int32 × HP)} {k : Int32 → Int32 → Int32 → Int32 → Int32 → HP → Option (Int32 × HP)} (hk : ∀ (a1 : Int32) (a2 : Int32) (a3 : Int32) (a4 : Int32) (a5 : Int32) (h : HP), k a1 a2 a3 a4 a5 h = some r → Wp [.inr (.inr (.inl (7, 0))), .inl a1, .inl a2, .inl a3, .inl a4, .inl a5] [] h) : ∀ L st h, pk_X7_least_47 k L st h = some r → Wp L st h := by
  intro L st h q
  unfold pk_X7_least_47 at q
  split at q
  · exact hk _ _ _ _ _ _ q
  · cases q
noncomputable def g_X7_least_18  (h : HP) : Option (Int32 × HP) := (f_X7_finds ((-1000000001)) h).bind (fun q_1 => some (q_1.1, q_1.2))
def pk_X7_least_18 (k : HP → Option (Int32 × HP)) : List AV → List AV → HP → Option (Int32 × HP) := fun L st h => match L, st with
  | [.inr (.inr (.inl (7, 0))), .inl _, .inl _, .inr (.inr (.inr ())), .inr (.inr (.inr ())), .inr (.inr (.inr ()))], [] => k h
  | _, _ => none
theorem pk_X7_least_18_ok {Wp : List AV → List AV → HP → Prop} {r : (Int32 × HP)} {k : HP → Option (Int32 × HP)} (hk : ∀ (w1 : Int32) (w2 : Int32) (h : HP), k h = some r → Wp [.inr (.inr (.inl (7, 0))), .inl w1, .inl w2, .inr (.inr (.inr ())), .inr (.inr (.inr ())), .inr (.inr (.inr ()))] [] h) : ∀ L st h, pk_X7_least_18 k L st h = some r → Wp L st h := by
  intro L st h q
  unfold pk_X7_least_18 at q
  split at q
  · exact hk _ _ _ q
  · cases q
noncomputable def f_X7_least (a1 : Int32) (a2 : Int32) (h : HP) : Option (Int32 × HP) := (f_X7_isMember a1 h).bind (fun q_1 => if q_1.1 = (0 : Int32) then (g_X7_least_18 q_1.2) else ((f_X7_in a2 0 60 q_1.2).bind (fun q_2 => if q_2.1 = (0 : Int32) then (g_X7_least_18 q_2.2) else ((f_X7_moveAll 1 2 q_2.2).bind (fun q_3 => (f_X7_whose a1 1 q_3).bind (fun q_4 => g_X7_least_47 am_fu a1 a2 q_4.1 0 0 q_4.2))))))
noncomputable def fl_X7_least : List AV → HP → Option (Int32 × HP) := fun as h => match as with
  | [.inr (.inr (.inl (7, 0))), .inl a1, .inl a2] => f_X7_least a1 a2 h
  | _ => none
noncomputable def F_X7_least : AF := .inl fl_X7_least
set_option maxRecDepth 20000 in
theorem w_X7_least_116 {p : Program} {l : Launch} {e : Env} {R : Room} {s : State} {m : MethodId} {args : Array Value} {below : List Frame} {meth : Method} {c : Code} {cells slots : Nat} {G : AG} {Q : (Int32 × HP) → State → Prop} (CX : am_X p l e R s m args below meth c cells slots G 6 cX7_least RX7 am_tb P_X7_least am_rI Q) {r : (Int32 × HP)} : ∀ (a1 : Int32) (a2 : Int32) (w1 : Int32) (w2 : Int32) (w3 : Int32) (h : HP), g_X7_least_116 a1 a2 h = some r → am_W p l e R s m args below meth c cells slots G 6 (Q r) 116 [.inr (.inr (.inl (7, 0))), .inl w1, .inl w2, .inl w3, .inl a1, .inl a2] [] h := by
  intro a1 a2 w1 w2 w3 h q
  exact am_run_ok CX ok_X7_least (K := []) (am_K0 (Wp := am_W p l e R s m args below meth c cells slots G 6 (Q r))) 9 116 _ _ _ q
set_option maxRecDepth 20000 in
theorem w_X7_least_87 {p : Program} {l : Launch} {e : Env} {R : Room} {s : State} {m : MethodId} {args : Array Value} {below : List Frame} {meth : Method} {c : Code} {cells slots : Nat} {G : AG} {Q : (Int32 × HP) → State → Prop} (CX : am_X p l e R s m args below meth c cells slots G 6 cX7_least RX7 am_tb P_X7_least am_rI Q) {r : (Int32 × HP)} {k47 : Int32 → Int32 → Int32 → Int32 → Int32 → HP → Option (Int32 × HP)} (hk47 : ∀ (a1 : Int32) (a2 : Int32) (a3 : Int32) (a4 : Int32) (a5 : Int32) (h : HP), k47 a1 a2 a3 a4 a5 h = some r → am_W p l e R s m args below meth c cells slots G 6 (Q r) 47 [.inr (.inr (.inl (7, 0))), .inl a1, .inl a2, .inl a3, .inl a4, .inl a5] [] h) : ∀ (a1 : Int32) (a2 : Int32) (a3 : Int32) (a4 : Int32) (a5 : Int32) (w1 : Int32) (h : HP), g_X7_least_87 k47 a1 a2 a3 a4 a5 h = some r → am_W p l e R s m args below meth c cells slots G 6 (Q r) 87 [.inr (.inr (.inl (7, 0))), .inl a1, .inl a2, .inl a3, .inl a4, .inl w1] [.inl a5] h := by
  intro a1 a2 a3 a4 a5 w1 h q
  exact am_run_ok CX ok_X7_least (K := [(47, pk_X7_least_47 (k47))]) (am_K1 (Wp := am_W p l e R s m args below meth c cells slots G 6 (Q r)) (pk_X7_least_47_ok (Wp := am_W p l e R s m args below meth c cells slots G 6 (Q r) 47) hk47) am_K0) 17 87 _ _ _ q
set_option maxRecDepth 20000 in
theorem w_X7_least_47 {p : Program} {l : Launch} {e : Env} {R : Room} {s : State} {m : MethodId} {args : Array Value} {below : List Frame} {meth : Method} {c : Code} {cells slots : Nat} {G : AG} {Q : (Int32 × HP) → State → Prop} (CX : am_X p l e R s m args below meth c cells slots G 6 cX7_least RX7 am_tb P_X7_least am_rI Q) {r : (Int32 × HP)} : ∀ (n : Nat) (a1 : Int32) (a2 : Int32) (a3 : Int32) (a4 : Int32) (a5 : Int32) (h : HP), g_X7_least_47 n a1 a2 a3 a4 a5 h = some r → am_W p l e R s m args below meth c cells slots G 6 (Q r) 47 [.inr (.inr (.inl (7, 0))), .inl a1, .inl a2, .inl a3, .inl a4, .inl a5] [] h := by
  intro n
  induction n with
  | zero =>
    intro a1 a2 a3 a4 a5 h q
    have q9 : (none : Option (Int32 × HP)) = some r := q
    cases q9
  | succ n ih =>
    intro a1 a2 a3 a4 a5 h q
    exact am_run_ok CX ok_X7_least (K := [(116, pk_X7_least_116 (g_X7_least_116)), (87, pk_X7_least_87 (g_X7_least_87 (g_X7_least_47 n)))]) (am_K1 (Wp := am_W p l e R s m args below meth c cells slots G 6 (Q r)) (pk_X7_least_116_ok (Wp := am_W p l e R s m args below meth c cells slots G 6 (Q r) 116) (w_X7_least_116 CX)) (am_K1 (Wp := am_W p l e R s m args below meth c cells slots G 6 (Q r)) (pk_X7_least_87_ok (Wp := am_W p l e R s m args below meth c cells slots G 6 (Q r) 87) (w_X7_least_87 CX ih)) am_K0)) 24 47 _ _ _ q
set_option maxRecDepth 20000 in
theorem w_X7_least_18 {p : Program} {l : Launch} {e : Env} {R : Room} {s : State} {m : MethodId} {args : Array Value} {below : List Frame} {meth : Method} {c : Code} {cells slots : Nat} {G : AG} {Q : (Int32 × HP) → State → Prop} (CX : am_X p l e R s m args below meth c cells slots G 6 cX7_least RX7 am_tb P_X7_least am_rI Q) {r : (Int32 × HP)} : ∀ (w1 : Int32) (w2 : Int32) (h : HP), g_X7_least_18 h = some r → am_W p l e R s m args below meth c cells slots G 6 (Q r) 18 [.inr (.inr (.inl (7, 0))), .inl w1, .inl w2, .inr (.inr (.inr ())), .inr (.inr (.inr ())), .inr (.inr (.inr ()))] [] h := by
  intro w1 w2 h q
  exact am_run_ok CX ok_X7_least (K := []) (am_K0 (Wp := am_W p l e R s m args below meth c cells slots G 6 (Q r))) 7 18 _ _ _ q
set_option maxRecDepth 20000 in
theorem b_X7_least (l : Launch) (G : AG) : am_B l G 6 cX7_least RX7 am_tb P_X7_least am_rI fl_X7_least := by
  intro p e R s m args below meth c cells slots Q CX as h r q
  unfold fl_X7_least at q
  split at q
  · exact am_run_ok CX ok_X7_least (K := [(18, pk_X7_least_18 (g_X7_least_18)), (47, pk_X7_least_47 (g_X7_least_47 am_fu))]) (am_K1 (Wp := am_W p l e R s m args below meth c cells slots G 6 (Q r)) (pk_X7_least_18_ok (Wp := am_W p l e R s m args below meth c cells slots G 6 (Q r) 18) (w_X7_least_18 CX)) (am_K1 (Wp := am_W p l e R s m args below meth c cells slots G 6 (Q r)) (pk_X7_least_47_ok (Wp := am_W p l e R s m args below meth c cells slots G 6 (Q r) 47) (w_X7_least_47 CX am_fu)) am_K0)) 26 0 _ _ _ q
  · cases q
theorem s_X7_least : ∀ as h x, fl_X7_least as h = some x → (∀ k, (some 7 : Option Nat) = some k → ∃ (j : Nat) (as' : List AV), as = .inr (.inr (.inl (k, j))) :: as') ∧ (am_l0 as).length ≤ 6 := by
  intro as h x q
  unfold fl_X7_least at q
  split at q
  · exact ⟨fun k e => by cases e; exact ⟨_, _, rfl⟩, Nat.le_of_ble_eq_true rfl⟩
  · cases q
theorem M_X7_least (l : Launch) (G : AG) : am_M l G yX7_least cX7_least 6 (some .int) 4 87 (some 7) F_X7_least := am_M_of (f := fl_X7_least) (toR := fun x => (some (.inl x.1), x.2)) (P := P_X7_least) (Rr := am_rI) (own := RX7) (by decide) rfl (fun _ _ => rfl) s_X7_least am_wrI am_rkI pf_RX7 pk_RX7 ps_RX7 (List.forall_mem_cons.mpr ⟨cv_RX7_78 l G (by decide) (by decide), (List.forall_mem_cons.mpr ⟨cv_RX7_108 l G (by decide) (by decide), (List.forall_mem_cons.mpr ⟨cv_RX7_111 l G (by decide) (by decide), (List.forall_mem_cons.mpr ⟨cv_RX7_137 l G (by decide) (by decide), (List.forall_mem_cons.mpr ⟨cv_RX7_159 l G (by decide) (by decide), (fun _ q => by cases q)⟩)⟩)⟩)⟩)⟩) (List.forall_mem_cons.mpr ⟨cs_RX7_42 l G (by decide) (by decide), (fun _ q => by cases q)⟩) (fun _ q => by cases q) (b_X7_least l G)
def C_X7_uses : List AC := [(0, .aload_n 0, 1, []), (1, .iload_n 1, 2, []), (2, .invokevirtual 86, 5, []), (5, .ifCond .eq 10, 8, [15]), (8, .iload_n 2, 9, []), (9, .invokestatic 75, 12, []), (12, .ifCond .ne 10, 15, [22]), (15, .aload_n 0, 16, []), (16, .ldc 41, 18, []), (18, .invokevirtual 78, 21, []), (21, .ireturn, 22, []), (22, .aload_n 0, 23, []), (23, .iload_n 1, 24, []), (24, .iconst 3, 25, []), (25, .invokevirtual 46, 28, []), (28, .istore_n 3, 29, []), (29, .iload_n 2, 30, []), (30, .istore 4, 32, []), (32, .iconst 0, 33, []), (33, .istore 5, 35, []), (35, .iload 5, 37, []), (37, .bipush 99, 39, []), (39, .if_icmp .ge 33, 42, [72]), (42, .aload_n 0, 43, []), (43, .iload_n 1, 44, []), (44, .iload 4, 46, []), (46, .invokevirtual 93, 49, []), (49, .ifCond .eq 23, 52, [72]), (52, .aload_n 0, 53, []), (53, .iload_n 1, 54, []), (54, .iload 4, 56, []), (56, .invokevirtual 97, 59, []), (59, .istore 4, 61, []), (61, .aload_n 0, 62, []), (62, .iload_n 1, 63, []), (63, .invokevirtual 131, 66, []), (66, .iinc 5 1, 69, []), (69, .goto (-34), 72, [35]), (72, .aload_n 0, 73, []), (73, .iload_n 1, 74, []), (74, .iconst 3, 75, []), (75, .iload_n 3, 76, []), (76, .invokevirtual 68, 79, []), (79, .iload 5, 81, []), (81, .ireturn, 82, [])]
theorem ok_X7_uses : ∀ x ∈ C_X7_uses, am_ok cX7_uses 6 x = true := by decide +kernel
noncomputable def P_X7_uses : AP := (PF_RX7, PK_RX7, PS_RX7, [(46, 3, F_X7_its), (68, 4, F_X7_puts), (78, 2, F_X7_finds), (86, 2, F_X7_isOne), (93, 3, F_X7_opens), (97, 3, F_X7_leadsTo), (131, 2, F_X7_wearsBy)], [(75, 1, F_X7_isRoom)], [])
noncomputable def g_X7_uses_72 (a1 : Int32) (a2 : Int32) (a3 : Int32) (h : HP) : Option (Int32 × HP) := (f_X7_puts a1 3 a2 h).bind (fun q_1 => some (a3, q_1))
def pk_X7_uses_72 (k : Int32 → Int32 → Int32 → HP → Option (Int32 × HP)) : List AV → List AV → HP → Option (Int32 × HP) := fun L st h => match L, st with
  | [.inr (.inr (.inl (7, 0))), .inl a1, .inl _, .inl a2, .inl _, .inl a3], [] => k a1 a2 a3 h
  | _, _ => none
theorem pk_X7_uses_72_ok {Wp : List AV → List AV → HP → Prop} {r : (Int32 × HP)} {k : Int32 → Int32 → Int32 → HP → Option (Int32 × HP)} (hk : ∀ (a1 : Int32) (a2 : Int32) (a3 : Int32) (w1 : Int32) (w2 : Int32) (h : HP), k a1 a2 a3 h = some r → Wp [.inr (.inr (.inl (7, 0))), .inl a1, .inl w1, .inl a2, .inl w2, .inl a3] [] h) : ∀ L st h, pk_X7_uses_72 k L st h = some r → Wp L st h := by
  intro L st h q
  unfold pk_X7_uses_72 at q
  split at q
  · exact hk _ _ _ _ _ _ q
  · cases q
noncomputable def g_X7_uses_35  : Nat → Int32 → Int32 → Int32 → Int32 → HP → Option (Int32 × HP)
  | 0, _, _, _, _, _ => none
  | n + 1, a1, a2, a3, a4, h => if (99 : Int32) ≤ a4 then (g_X7_uses_72 a1 a2 a4 h) else ((f_X7_opens a1 a3 h).bind (fun q_1 => if q_1.1 = (0 : Int32) then (g_X7_uses_72 a1 a2 a4 q_1.2) else ((f_X7_leadsTo a1 a3 q_1.2).bind (fun q_2 => (f_X7_wearsBy a1 q_2.2).bind (fun q_3 => g_X7_uses_35 n a1 a2 q_2.1 (a4 + 1) q_3)))))
def pk_X7_uses_35 (k : Int32 → Int32 → Int32 → Int32 → HP → Option (Int32 × HP)) : List AV → List AV → HP → Option (Int32 × HP) := fun L st h => match L, st with
  | [.inr (.inr (.inl (7, 0))), .inl a1, .inl _, .inl a2, .inl a3, .inl a4], [] => k a1 a2 a3 a4 h
  | _, _ => none
theorem pk_X7_uses_35_ok {Wp : List AV → List AV → HP → Prop} {r : (Int32 × HP)} {k : Int32 → Int32 → Int32 → Int32 → HP → Option (Int32 × HP)} (hk : ∀ (a1 : Int32) (a2 : Int32) (a3 : Int32) (a4 : Int32) (w1 : Int32) (h : HP), k a1 a2 a3 a4 h = some r → Wp [.inr (.inr (.inl (7, 0))), .inl a1, .inl w1, .inl a2, .inl a3, .inl a4] [] h) : ∀ L st h, pk_X7_uses_35 k L st h = some r → Wp L st h := by
  intro L st h q
  unfold pk_X7_uses_35 at q
  split at q
  · exact hk _ _ _ _ _ _ q
  · cases q
noncomputable def g_X7_uses_15  (h : HP) : Option (Int32 × HP) := (f_X7_finds ((-1000000001)) h).bind (fun q_1 => some (q_1.1, q_1.2))
def pk_X7_uses_15 (k : HP → Option (Int32 × HP)) : List AV → List AV → HP → Option (Int32 × HP) := fun L st h => match L, st with
  | [.inr (.inr (.inl (7, 0))), .inl _, .inl _, .inr (.inr (.inr ())), .inr (.inr (.inr ())), .inr (.inr (.inr ()))], [] => k h
  | _, _ => none
theorem pk_X7_uses_15_ok {Wp : List AV → List AV → HP → Prop} {r : (Int32 × HP)} {k : HP → Option (Int32 × HP)} (hk : ∀ (w1 : Int32) (w2 : Int32) (h : HP), k h = some r → Wp [.inr (.inr (.inl (7, 0))), .inl w1, .inl w2, .inr (.inr (.inr ())), .inr (.inr (.inr ())), .inr (.inr (.inr ()))] [] h) : ∀ L st h, pk_X7_uses_15 k L st h = some r → Wp L st h := by
  intro L st h q
  unfold pk_X7_uses_15 at q
  split at q
  · exact hk _ _ _ q
  · cases q
noncomputable def f_X7_uses (a1 : Int32) (a2 : Int32) (h : HP) : Option (Int32 × HP) := (f_X7_isOne a1 h).bind (fun q_1 => if q_1.1 = (0 : Int32) then (g_X7_uses_15 q_1.2) else ((f_X7_isRoom a2 q_1.2).bind (fun q_2 => if q_2.1 = (0 : Int32) then (g_X7_uses_15 q_2.2) else ((f_X7_its a1 3 q_2.2).bind (fun q_3 => g_X7_uses_35 am_fu a1 q_3.1 a2 0 q_3.2)))))
noncomputable def fl_X7_uses : List AV → HP → Option (Int32 × HP) := fun as h => match as with
  | [.inr (.inr (.inl (7, 0))), .inl a1, .inl a2] => f_X7_uses a1 a2 h
  | _ => none
noncomputable def F_X7_uses : AF := .inl fl_X7_uses
set_option maxRecDepth 20000 in
theorem w_X7_uses_72 {p : Program} {l : Launch} {e : Env} {R : Room} {s : State} {m : MethodId} {args : Array Value} {below : List Frame} {meth : Method} {c : Code} {cells slots : Nat} {G : AG} {Q : (Int32 × HP) → State → Prop} (CX : am_X p l e R s m args below meth c cells slots G 6 cX7_uses RX7 am_tb P_X7_uses am_rI Q) {r : (Int32 × HP)} : ∀ (a1 : Int32) (a2 : Int32) (a3 : Int32) (w1 : Int32) (w2 : Int32) (h : HP), g_X7_uses_72 a1 a2 a3 h = some r → am_W p l e R s m args below meth c cells slots G 6 (Q r) 72 [.inr (.inr (.inl (7, 0))), .inl a1, .inl w1, .inl a2, .inl w2, .inl a3] [] h := by
  intro a1 a2 a3 w1 w2 h q
  exact am_run_ok CX ok_X7_uses (K := []) (am_K0 (Wp := am_W p l e R s m args below meth c cells slots G 6 (Q r))) 10 72 _ _ _ q
set_option maxRecDepth 20000 in
theorem w_X7_uses_35 {p : Program} {l : Launch} {e : Env} {R : Room} {s : State} {m : MethodId} {args : Array Value} {below : List Frame} {meth : Method} {c : Code} {cells slots : Nat} {G : AG} {Q : (Int32 × HP) → State → Prop} (CX : am_X p l e R s m args below meth c cells slots G 6 cX7_uses RX7 am_tb P_X7_uses am_rI Q) {r : (Int32 × HP)} : ∀ (n : Nat) (a1 : Int32) (a2 : Int32) (a3 : Int32) (a4 : Int32) (w1 : Int32) (h : HP), g_X7_uses_35 n a1 a2 a3 a4 h = some r → am_W p l e R s m args below meth c cells slots G 6 (Q r) 35 [.inr (.inr (.inl (7, 0))), .inl a1, .inl w1, .inl a2, .inl a3, .inl a4] [] h := by
  intro n
  induction n with
  | zero =>
    intro a1 a2 a3 a4 w1 h q
    have q9 : (none : Option (Int32 × HP)) = some r := q
    cases q9
  | succ n ih =>
    intro a1 a2 a3 a4 w1 h q
    exact am_run_ok CX ok_X7_uses (K := [(72, pk_X7_uses_72 (g_X7_uses_72)), (35, pk_X7_uses_35 (g_X7_uses_35 n))]) (am_K1 (Wp := am_W p l e R s m args below meth c cells slots G 6 (Q r)) (pk_X7_uses_72_ok (Wp := am_W p l e R s m args below meth c cells slots G 6 (Q r) 72) (w_X7_uses_72 CX)) (am_K1 (Wp := am_W p l e R s m args below meth c cells slots G 6 (Q r)) (pk_X7_uses_35_ok (Wp := am_W p l e R s m args below meth c cells slots G 6 (Q r) 35) ih) am_K0)) 21 35 _ _ _ q
set_option maxRecDepth 20000 in
theorem w_X7_uses_15 {p : Program} {l : Launch} {e : Env} {R : Room} {s : State} {m : MethodId} {args : Array Value} {below : List Frame} {meth : Method} {c : Code} {cells slots : Nat} {G : AG} {Q : (Int32 × HP) → State → Prop} (CX : am_X p l e R s m args below meth c cells slots G 6 cX7_uses RX7 am_tb P_X7_uses am_rI Q) {r : (Int32 × HP)} : ∀ (w1 : Int32) (w2 : Int32) (h : HP), g_X7_uses_15 h = some r → am_W p l e R s m args below meth c cells slots G 6 (Q r) 15 [.inr (.inr (.inl (7, 0))), .inl w1, .inl w2, .inr (.inr (.inr ())), .inr (.inr (.inr ())), .inr (.inr (.inr ()))] [] h := by
  intro w1 w2 h q
  exact am_run_ok CX ok_X7_uses (K := []) (am_K0 (Wp := am_W p l e R s m args below meth c cells slots G 6 (Q r))) 7 15 _ _ _ q
set_option maxRecDepth 20000 in
theorem b_X7_uses (l : Launch) (G : AG) : am_B l G 6 cX7_uses RX7 am_tb P_X7_uses am_rI fl_X7_uses := by
  intro p e R s m args below meth c cells slots Q CX as h r q
  unfold fl_X7_uses at q
  split at q
  · exact am_run_ok CX ok_X7_uses (K := [(15, pk_X7_uses_15 (g_X7_uses_15)), (35, pk_X7_uses_35 (g_X7_uses_35 am_fu))]) (am_K1 (Wp := am_W p l e R s m args below meth c cells slots G 6 (Q r)) (pk_X7_uses_15_ok (Wp := am_W p l e R s m args below meth c cells slots G 6 (Q r) 15) (w_X7_uses_15 CX)) (am_K1 (Wp := am_W p l e R s m args below meth c cells slots G 6 (Q r)) (pk_X7_uses_35_ok (Wp := am_W p l e R s m args below meth c cells slots G 6 (Q r) 35) (w_X7_uses_35 CX am_fu)) am_K0)) 19 0 _ _ _ q
  · cases q
theorem s_X7_uses : ∀ as h x, fl_X7_uses as h = some x → (∀ k, (some 7 : Option Nat) = some k → ∃ (j : Nat) (as' : List AV), as = .inr (.inr (.inl (k, j))) :: as') ∧ (am_l0 as).length ≤ 6 := by
  intro as h x q
  unfold fl_X7_uses at q
  split at q
  · exact ⟨fun k e => by cases e; exact ⟨_, _, rfl⟩, Nat.le_of_ble_eq_true rfl⟩
  · cases q
theorem M_X7_uses (l : Launch) (G : AG) : am_M l G yX7_uses cX7_uses 6 (some .int) 5 112 (some 7) F_X7_uses := am_M_of (f := fl_X7_uses) (toR := fun x => (some (.inl x.1), x.2)) (P := P_X7_uses) (Rr := am_rI) (own := RX7) (by decide) rfl (fun _ _ => rfl) s_X7_uses am_wrI am_rkI pf_RX7 pk_RX7 ps_RX7 (List.forall_mem_cons.mpr ⟨cv_RX7_46 l G (by decide) (by decide), (List.forall_mem_cons.mpr ⟨cv_RX7_68 l G (by decide) (by decide), (List.forall_mem_cons.mpr ⟨cv_RX7_78 l G (by decide) (by decide), (List.forall_mem_cons.mpr ⟨cv_RX7_86 l G (by decide) (by decide), (List.forall_mem_cons.mpr ⟨cv_RX7_93 l G (by decide) (by decide), (List.forall_mem_cons.mpr ⟨cv_RX7_97 l G (by decide) (by decide), (List.forall_mem_cons.mpr ⟨cv_RX7_131 l G (by decide) (by decide), (fun _ q => by cases q)⟩)⟩)⟩)⟩)⟩)⟩)⟩) (List.forall_mem_cons.mpr ⟨cs_RX7_75 l G (by decide) (by decide), (fun _ q => by cases q)⟩) (fun _ q => by cases q) (b_X7_uses l G)
def C_X7_feed : List AC := [(0, .iload_n 2, 1, []), (1, .iconst 1, 2, []), (2, .iconst 4, 3, []), (3, .invokestatic 42, 6, []), (6, .ifCond .ne 10, 9, [16]), (9, .aload_n 0, 10, []), (10, .ldc 41, 12, []), (12, .invokevirtual 78, 15, []), (15, .ireturn, 16, []), (16, .aload_n 0, 17, []), (17, .getfield 172, 20, []), (20, .iload_n 2, 21, []), (21, .iadd, 22, []), (22, .bipush 120, 24, []), (24, .if_icmp .le 10, 27, [34]), (27, .aload_n 0, 28, []), (28, .ldc 81, 30, []), (30, .invokevirtual 78, 33, []), (33, .ireturn, 34, []), (34, .iload_n 2, 35, []), (35, .iconst 1, 36, []), (36, .isub, 37, []), (37, .istore_n 3, 38, []), (38, .iload_n 3, 39, []), (39, .ifCond .lt 38, 42, [77]), (42, .aload_n 0, 43, []), (43, .getfield 19, 46, []), (46, .aload_n 0, 47, []), (47, .getfield 172, 50, []), (50, .iload_n 1, 51, []), (51, .bipush 8, 53, []), (53, .iload_n 3, 54, []), (54, .imul, 55, []), (55, .ishr, 56, []), (56, .sipush 255, 59, []), (59, .iand, 60, []), (60, .iastore, 61, []), (61, .aload_n 0, 62, []), (62, .dup, 63, []), (63, .getfield 172, 66, []), (66, .iconst 1, 67, []), (67, .iadd, 68, []), (68, .putfield 172, 71, []), (71, .iinc 3 (-1), 74, []), (74, .goto (-36), 77, [38]), (77, .aload_n 0, 78, []), (78, .getfield 172, 81, []), (81, .ireturn, 82, [])]
theorem ok_X7_feed : ∀ x ∈ C_X7_feed, am_ok cX7_feed 4 x = true := by decide +kernel
noncomputable def P_X7_feed : AP := (PF_RX7, PK_RX7, PS_RX7, [(78, 2, F_X7_finds)], [(42, 3, F_X7_in)], [])
noncomputable def g_X7_feed_38  : Nat → Int32 → Int32 → HP → Option (Int32 × HP)
  | 0, _, _, _ => none
  | n + 1, a1, a2, h => if a2 < (0 : Int32) then (some (h_rI h 7 0 4, h)) else ((am_ix (h_rI h 7 0 4) 120).bind (fun k_1 => g_X7_feed_38 n a1 (a2 + (-1)) (h_wI (h_wI h 13 3 k_1 ((a1 >>> ((8 * a2) &&& 31)) &&& 255)) 7 0 4 ((h_rI (h_wI h 13 3 k_1 ((a1 >>> ((8 * a2) &&& 31)) &&& 255)) 7 0 4) + 1))))
def pk_X7_feed_38 (k : Int32 → Int32 → HP → Option (Int32 × HP)) : List AV → List AV → HP → Option (Int32 × HP) := fun L st h => match L, st with
  | [.inr (.inr (.inl (7, 0))), .inl a1, .inl _, .inl a2], [] => k a1 a2 h
  | _, _ => none
theorem pk_X7_feed_38_ok {Wp : List AV → List AV → HP → Prop} {r : (Int32 × HP)} {k : Int32 → Int32 → HP → Option (Int32 × HP)} (hk : ∀ (a1 : Int32) (a2 : Int32) (w1 : Int32) (h : HP), k a1 a2 h = some r → Wp [.inr (.inr (.inl (7, 0))), .inl a1, .inl w1, .inl a2] [] h) : ∀ L st h, pk_X7_feed_38 k L st h = some r → Wp L st h := by
  intro L st h q
  unfold pk_X7_feed_38 at q
  split at q
  · exact hk _ _ _ _ q
  · cases q
noncomputable def f_X7_feed (a1 : Int32) (a2 : Int32) (h : HP) : Option (Int32 × HP) := (f_X7_in a2 1 4 h).bind (fun q_1 => if q_1.1 = (0 : Int32) then ((f_X7_finds ((-1000000001)) q_1.2).bind (fun q_3 => some (q_3.1, q_3.2))) else (if (h_rI q_1.2 7 0 4) + a2 ≤ (120 : Int32) then (g_X7_feed_38 am_fu a1 (a2 - 1) q_1.2) else ((f_X7_finds ((-1000000002)) q_1.2).bind (fun q_2 => some (q_2.1, q_2.2)))))
noncomputable def fl_X7_feed : List AV → HP → Option (Int32 × HP) := fun as h => match as with
  | [.inr (.inr (.inl (7, 0))), .inl a1, .inl a2] => f_X7_feed a1 a2 h
  | _ => none
noncomputable def F_X7_feed : AF := .inl fl_X7_feed
set_option maxRecDepth 20000 in
theorem w_X7_feed_38 {p : Program} {l : Launch} {e : Env} {R : Room} {s : State} {m : MethodId} {args : Array Value} {below : List Frame} {meth : Method} {c : Code} {cells slots : Nat} {G : AG} {Q : (Int32 × HP) → State → Prop} (CX : am_X p l e R s m args below meth c cells slots G 4 cX7_feed RX7 am_tb P_X7_feed am_rI Q) {r : (Int32 × HP)} : ∀ (n : Nat) (a1 : Int32) (a2 : Int32) (w1 : Int32) (h : HP), g_X7_feed_38 n a1 a2 h = some r → am_W p l e R s m args below meth c cells slots G 4 (Q r) 38 [.inr (.inr (.inl (7, 0))), .inl a1, .inl w1, .inl a2] [] h := by
  intro n
  induction n with
  | zero =>
    intro a1 a2 w1 h q
    have q9 : (none : Option (Int32 × HP)) = some r := q
    cases q9
  | succ n ih =>
    intro a1 a2 w1 h q
    exact am_run_ok CX ok_X7_feed (K := [(38, pk_X7_feed_38 (g_X7_feed_38 n))]) (am_K1 (Wp := am_W p l e R s m args below meth c cells slots G 4 (Q r)) (pk_X7_feed_38_ok (Wp := am_W p l e R s m args below meth c cells slots G 4 (Q r) 38) ih) am_K0) 25 38 _ _ _ q
set_option maxRecDepth 20000 in
theorem b_X7_feed (l : Launch) (G : AG) : am_B l G 4 cX7_feed RX7 am_tb P_X7_feed am_rI fl_X7_feed := by
  intro p e R s m args below meth c cells slots Q CX as h r q
  unfold fl_X7_feed at q
  split at q
  · exact am_run_ok CX ok_X7_feed (K := [(38, pk_X7_feed_38 (g_X7_feed_38 am_fu))]) (am_K1 (Wp := am_W p l e R s m args below meth c cells slots G 4 (Q r)) (pk_X7_feed_38_ok (Wp := am_W p l e R s m args below meth c cells slots G 4 (Q r) 38) (w_X7_feed_38 CX am_fu)) am_K0) 18 0 _ _ _ q
  · cases q
theorem s_X7_feed : ∀ as h x, fl_X7_feed as h = some x → (∀ k, (some 7 : Option Nat) = some k → ∃ (j : Nat) (as' : List AV), as = .inr (.inr (.inl (k, j))) :: as') ∧ (am_l0 as).length ≤ 4 := by
  intro as h x q
  unfold fl_X7_feed at q
  split at q
  · exact ⟨fun k e => by cases e; exact ⟨_, _, rfl⟩, Nat.le_of_ble_eq_true rfl⟩
  · cases q
theorem M_X7_feed (l : Launch) (G : AG) : am_M l G yX7_feed cX7_feed 4 (some .int) 1 22 (some 7) F_X7_feed := am_M_of (f := fl_X7_feed) (toR := fun x => (some (.inl x.1), x.2)) (P := P_X7_feed) (Rr := am_rI) (own := RX7) (by decide) rfl (fun _ _ => rfl) s_X7_feed am_wrI am_rkI pf_RX7 pk_RX7 ps_RX7 (List.forall_mem_cons.mpr ⟨cv_RX7_78 l G (by decide) (by decide), (fun _ q => by cases q)⟩) (List.forall_mem_cons.mpr ⟨cs_RX7_42 l G (by decide) (by decide), (fun _ q => by cases q)⟩) (fun _ q => by cases q) (b_X7_feed l G)
