/-! 14.model1 -/
def C_X7_in : List AC := [(0, .iload_n 0, 1, []), (1, .iload_n 1, 2, []), (2, .if_icmp .lt 12, 5, [14]), (5, .iload_n 0, 6, []), (6, .iload_n 2, 7, []), (7, .if_icmp .gt 7, 10, [14]), (10, .iconst 1, 11, []), (11, .goto 4, 14, [15]), (14, .iconst 0, 15, []), (15, .ireturn, 16, [])]
theorem ok_X7_in : ∀ x ∈ C_X7_in, am_ok cX7_in 3 x = true := by decide +kernel
noncomputable def P_X7_in : AP := (PF_RX7, PK_RX7, PS_RX7, [], [], [])
noncomputable def f_X7_in (a1 : Int32) (a2 : Int32) (a3 : Int32) (h : HP) : Option (Int32 × HP) := if a1 < a2 then (some (0, h)) else (if a3 < a1 then (some (0, h)) else (some (1, h)))
noncomputable def fl_X7_in : List AV → HP → Option (Int32 × HP) := fun as h => match as with
  | [.inl a1, .inl a2, .inl a3] => f_X7_in a1 a2 a3 h
  | _ => none
noncomputable def F_X7_in : AF := .inl fl_X7_in
set_option maxRecDepth 20000 in
theorem b_X7_in (l : Launch) (G : AG) : am_B l G 3 cX7_in RX7 am_tb P_X7_in am_rZ fl_X7_in := by
  intro p e R s m args below meth c cells slots Q CX as h r q
  unfold fl_X7_in at q
  split at q
  · exact am_run_ok CX ok_X7_in (K := []) (am_K0 (Wp := am_W p l e R s m args below meth c cells slots G 3 (Q r))) 12 0 _ _ _ q
  · cases q
theorem s_X7_in : ∀ as h x, fl_X7_in as h = some x → (∀ k, (none : Option Nat) = some k → ∃ (j : Nat) (as' : List AV), as = .inr (.inr (.inl (k, j))) :: as') ∧ (am_l0 as).length ≤ 3 := by
  intro as h x q
  unfold fl_X7_in at q
  split at q
  · exact ⟨fun k e => (by cases e), Nat.le_of_ble_eq_true rfl⟩
  · cases q
theorem M_X7_in (l : Launch) (G : AG) : am_M l G yX7_in cX7_in 3 (some .boolean) 0 0 none F_X7_in := am_M_of (f := fl_X7_in) (toR := fun x => (some (.inl x.1), x.2)) (P := P_X7_in) (Rr := am_rZ) (own := RX7) (by decide) rfl (fun _ _ => rfl) s_X7_in am_wrI am_rkZ pf_RX7 pk_RX7 ps_RX7 (fun _ q => by cases q) (fun _ q => by cases q) (fun _ q => by cases q) (b_X7_in l G)
def C_X7_finds : List AC := [(0, .aload_n 0, 1, []), (1, .getfield 13, 4, []), (4, .ldc 41, 6, []), (6, .iload_n 1, 7, []), (7, .isub, 8, []), (8, .dup2, 9, []), (9, .iaload, 10, []), (10, .iconst 1, 11, []), (11, .iadd, 12, []), (12, .iastore, 13, []), (13, .iload_n 1, 14, []), (14, .ireturn, 15, [])]
theorem ok_X7_finds : ∀ x ∈ C_X7_finds, am_ok cX7_finds 2 x = true := by decide +kernel
noncomputable def P_X7_finds : AP := (PF_RX7, PK_RX7, PS_RX7, [], [], [])
noncomputable def f_X7_finds (a1 : Int32) (h : HP) : Option (Int32 × HP) := (am_ix (((-1000000001)) - a1) 7).bind (fun k_1 => (am_ix (((-1000000001)) - a1) 7).bind (fun k_2 => some (a1, h_wI h 13 1 k_2 ((h_rI h 13 1 k_1) + 1))))
noncomputable def fl_X7_finds : List AV → HP → Option (Int32 × HP) := fun as h => match as with
  | [.inr (.inr (.inl (7, 0))), .inl a1] => f_X7_finds a1 h
  | _ => none
noncomputable def F_X7_finds : AF := .inl fl_X7_finds
set_option maxRecDepth 20000 in
theorem b_X7_finds (l : Launch) (G : AG) : am_B l G 2 cX7_finds RX7 am_tb P_X7_finds am_rI fl_X7_finds := by
  intro p e R s m args below meth c cells slots Q CX as h r q
  unfold fl_X7_finds at q
  split at q
  · exact am_run_ok CX ok_X7_finds (K := []) (am_K0 (Wp := am_W p l e R s m args below meth c cells slots G 2 (Q r))) 15 0 _ _ _ q
  · cases q
theorem s_X7_finds : ∀ as h x, fl_X7_finds as h = some x → (∀ k, (some 7 : Option Nat) = some k → ∃ (j : Nat) (as' : List AV), as = .inr (.inr (.inl (k, j))) :: as') ∧ (am_l0 as).length ≤ 2 := by
  intro as h x q
  unfold fl_X7_finds at q
  split at q
  · exact ⟨fun k e => by cases e; exact ⟨_, _, rfl⟩, Nat.le_of_ble_eq_true rfl⟩
  · cases q
theorem M_X7_finds (l : Launch) (G : AG) : am_M l G yX7_finds cX7_finds 2 (some .int) 0 0 (some 7) F_X7_finds := am_M_of (f := fl_X7_finds) (toR := fun x => (some (.inl x.1), x.2)) (P := P_X7_finds) (Rr := am_rI) (own := RX7) (by decide) rfl (fun _ _ => rfl) s_X7_finds am_wrI am_rkI pf_RX7 pk_RX7 ps_RX7 (fun _ q => by cases q) (fun _ q => by cases q) (fun _ q => by cases q) (b_X7_finds l G)
def C_X7_held : List AC := [(0, .iload_n 0, 1, []), (1, .iload_n 1, 2, []), (2, .if_icmp .ge 7, 5, [9]), (5, .iload_n 1, 6, []), (6, .goto 13, 9, [19]), (9, .iload_n 0, 10, []), (10, .iload_n 2, 11, []), (11, .if_icmp .le 7, 14, [18]), (14, .iload_n 2, 15, []), (15, .goto 4, 18, [19]), (18, .iload_n 0, 19, []), (19, .ireturn, 20, [])]
theorem ok_X7_held : ∀ x ∈ C_X7_held, am_ok cX7_held 3 x = true := by decide +kernel
noncomputable def P_X7_held : AP := (PF_RX7, PK_RX7, PS_RX7, [], [], [])
noncomputable def f_X7_held (a1 : Int32) (a2 : Int32) (a3 : Int32) (h : HP) : Option (Int32 × HP) := if a2 ≤ a1 then (if a1 ≤ a3 then (some (a1, h)) else (some (a3, h))) else (some (a2, h))
noncomputable def fl_X7_held : List AV → HP → Option (Int32 × HP) := fun as h => match as with
  | [.inl a1, .inl a2, .inl a3] => f_X7_held a1 a2 a3 h
  | _ => none
noncomputable def F_X7_held : AF := .inl fl_X7_held
set_option maxRecDepth 20000 in
theorem b_X7_held (l : Launch) (G : AG) : am_B l G 3 cX7_held RX7 am_tb P_X7_held am_rI fl_X7_held := by
  intro p e R s m args below meth c cells slots Q CX as h r q
  unfold fl_X7_held at q
  split at q
  · exact am_run_ok CX ok_X7_held (K := []) (am_K0 (Wp := am_W p l e R s m args below meth c cells slots G 3 (Q r))) 12 0 _ _ _ q
  · cases q
theorem s_X7_held : ∀ as h x, fl_X7_held as h = some x → (∀ k, (none : Option Nat) = some k → ∃ (j : Nat) (as' : List AV), as = .inr (.inr (.inl (k, j))) :: as') ∧ (am_l0 as).length ≤ 3 := by
  intro as h x q
  unfold fl_X7_held at q
  split at q
  · exact ⟨fun k e => (by cases e), Nat.le_of_ble_eq_true rfl⟩
  · cases q
theorem M_X7_held (l : Launch) (G : AG) : am_M l G yX7_held cX7_held 3 (some .int) 0 0 none F_X7_held := am_M_of (f := fl_X7_held) (toR := fun x => (some (.inl x.1), x.2)) (P := P_X7_held) (Rr := am_rI) (own := RX7) (by decide) rfl (fun _ _ => rfl) s_X7_held am_wrI am_rkI pf_RX7 pk_RX7 ps_RX7 (fun _ q => by cases q) (fun _ q => by cases q) (fun _ q => by cases q) (b_X7_held l G)
def C_X7_its : List AC := [(0, .aload_n 0, 1, []), (1, .getfield 7, 4, []), (4, .iconst 4, 5, []), (5, .bipush 6, 7, []), (7, .iload_n 1, 8, []), (8, .imul, 9, []), (9, .iadd, 10, []), (10, .iload_n 2, 11, []), (11, .iadd, 12, []), (12, .iaload, 13, []), (13, .ireturn, 14, [])]
theorem ok_X7_its : ∀ x ∈ C_X7_its, am_ok cX7_its 3 x = true := by decide +kernel
noncomputable def P_X7_its : AP := (PF_RX7, PK_RX7, PS_RX7, [], [], [])
noncomputable def f_X7_its (a1 : Int32) (a2 : Int32) (h : HP) : Option (Int32 × HP) := (am_ix ((4 + (6 * a1)) + a2) 64).bind (fun k_1 => some (h_rI h 13 0 k_1, h))
noncomputable def fl_X7_its : List AV → HP → Option (Int32 × HP) := fun as h => match as with
  | [.inr (.inr (.inl (7, 0))), .inl a1, .inl a2] => f_X7_its a1 a2 h
  | _ => none
noncomputable def F_X7_its : AF := .inl fl_X7_its
set_option maxRecDepth 20000 in
theorem b_X7_its (l : Launch) (G : AG) : am_B l G 3 cX7_its RX7 am_tb P_X7_its am_rI fl_X7_its := by
  intro p e R s m args below meth c cells slots Q CX as h r q
  unfold fl_X7_its at q
  split at q
  · exact am_run_ok CX ok_X7_its (K := []) (am_K0 (Wp := am_W p l e R s m args below meth c cells slots G 3 (Q r))) 14 0 _ _ _ q
  · cases q
theorem s_X7_its : ∀ as h x, fl_X7_its as h = some x → (∀ k, (some 7 : Option Nat) = some k → ∃ (j : Nat) (as' : List AV), as = .inr (.inr (.inl (k, j))) :: as') ∧ (am_l0 as).length ≤ 3 := by
  intro as h x q
  unfold fl_X7_its at q
  split at q
  · exact ⟨fun k e => by cases e; exact ⟨_, _, rfl⟩, Nat.le_of_ble_eq_true rfl⟩
  · cases q
theorem M_X7_its (l : Launch) (G : AG) : am_M l G yX7_its cX7_its 3 (some .int) 0 0 (some 7) F_X7_its := am_M_of (f := fl_X7_its) (toR := fun x => (some (.inl x.1), x.2)) (P := P_X7_its) (Rr := am_rI) (own := RX7) (by decide) rfl (fun _ _ => rfl) s_X7_its am_wrI am_rkI pf_RX7 pk_RX7 ps_RX7 (fun _ q => by cases q) (fun _ q => by cases q) (fun _ q => by cases q) (b_X7_its l G)
def C_X7_becomes : List AC := [(0, .aload_n 0, 1, []), (1, .getfield 7, 4, []), (4, .iload_n 1, 5, []), (5, .iaload, 6, []), (6, .istore_n 3, 7, []), (7, .aload_n 0, 8, []), (8, .getfield 7, 11, []), (11, .iload_n 1, 12, []), (12, .iload_n 2, 13, []), (13, .iastore, 14, []), (14, .iload_n 3, 15, []), (15, .ireturn, 16, [])]
theorem ok_X7_becomes : ∀ x ∈ C_X7_becomes, am_ok cX7_becomes 4 x = true := by decide +kernel
noncomputable def P_X7_becomes : AP := (PF_RX7, PK_RX7, PS_RX7, [], [], [])
noncomputable def f_X7_becomes (a1 : Int32) (a2 : Int32) (h : HP) : Option (Int32 × HP) := (am_ix a1 64).bind (fun k_1 => (am_ix a1 64).bind (fun k_2 => some (h_rI h 13 0 k_1, h_wI h 13 0 k_2 a2)))
noncomputable def fl_X7_becomes : List AV → HP → Option (Int32 × HP) := fun as h => match as with
  | [.inr (.inr (.inl (7, 0))), .inl a1, .inl a2] => f_X7_becomes a1 a2 h
  | _ => none
noncomputable def F_X7_becomes : AF := .inl fl_X7_becomes
set_option maxRecDepth 20000 in
theorem b_X7_becomes (l : Launch) (G : AG) : am_B l G 4 cX7_becomes RX7 am_tb P_X7_becomes am_rI fl_X7_becomes := by
  intro p e R s m args below meth c cells slots Q CX as h r q
  unfold fl_X7_becomes at q
  split at q
  · exact am_run_ok CX ok_X7_becomes (K := []) (am_K0 (Wp := am_W p l e R s m args below meth c cells slots G 4 (Q r))) 15 0 _ _ _ q
  · cases q
theorem s_X7_becomes : ∀ as h x, fl_X7_becomes as h = some x → (∀ k, (some 7 : Option Nat) = some k → ∃ (j : Nat) (as' : List AV), as = .inr (.inr (.inl (k, j))) :: as') ∧ (am_l0 as).length ≤ 4 := by
  intro as h x q
  unfold fl_X7_becomes at q
  split at q
  · exact ⟨fun k e => by cases e; exact ⟨_, _, rfl⟩, Nat.le_of_ble_eq_true rfl⟩
  · cases q
theorem M_X7_becomes (l : Launch) (G : AG) : am_M l G yX7_becomes cX7_becomes 4 (some .int) 0 0 (some 7) F_X7_becomes := am_M_of (f := fl_X7_becomes) (toR := fun x => (some (.inl x.1), x.2)) (P := P_X7_becomes) (Rr := am_rI) (own := RX7) (by decide) rfl (fun _ _ => rfl) s_X7_becomes am_wrI am_rkI pf_RX7 pk_RX7 ps_RX7 (fun _ q => by cases q) (fun _ q => by cases q) (fun _ q => by cases q) (b_X7_becomes l G)
def C_X7_puts : List AC := [(0, .aload_n 0, 1, []), (1, .getfield 7, 4, []), (4, .iconst 4, 5, []), (5, .bipush 6, 7, []), (7, .iload_n 1, 8, []), (8, .imul, 9, []), (9, .iadd, 10, []), (10, .iload_n 2, 11, []), (11, .iadd, 12, []), (12, .iload_n 3, 13, []), (13, .iastore, 14, []), (14, .return_, 15, [])]
theorem ok_X7_puts : ∀ x ∈ C_X7_puts, am_ok cX7_puts 4 x = true := by decide +kernel
noncomputable def P_X7_puts : AP := (PF_RX7, PK_RX7, PS_RX7, [], [], [])
noncomputable def f_X7_puts (a1 : Int32) (a2 : Int32) (a3 : Int32) (h : HP) : Option HP := (am_ix ((4 + (6 * a1)) + a2) 64).bind (fun k_1 => some (h_wI h 13 0 k_1 a3))
noncomputable def fl_X7_puts : List AV → HP → Option HP := fun as h => match as with
  | [.inr (.inr (.inl (7, 0))), .inl a1, .inl a2, .inl a3] => f_X7_puts a1 a2 a3 h
  | _ => none
noncomputable def F_X7_puts : AF := .inr (.inl fl_X7_puts)
set_option maxRecDepth 20000 in
theorem b_X7_puts (l : Launch) (G : AG) : am_B l G 4 cX7_puts RX7 am_tb P_X7_puts am_rV fl_X7_puts := by
  intro p e R s m args below meth c cells slots Q CX as h r q
  unfold fl_X7_puts at q
  split at q
  · exact am_run_ok CX ok_X7_puts (K := []) (am_K0 (Wp := am_W p l e R s m args below meth c cells slots G 4 (Q r))) 15 0 _ _ _ q
  · cases q
theorem s_X7_puts : ∀ as h x, fl_X7_puts as h = some x → (∀ k, (some 7 : Option Nat) = some k → ∃ (j : Nat) (as' : List AV), as = .inr (.inr (.inl (k, j))) :: as') ∧ (am_l0 as).length ≤ 4 := by
  intro as h x q
  unfold fl_X7_puts at q
  split at q
  · exact ⟨fun k e => by cases e; exact ⟨_, _, rfl⟩, Nat.le_of_ble_eq_true rfl⟩
  · cases q
theorem M_X7_puts (l : Launch) (G : AG) : am_M l G yX7_puts cX7_puts 4 none 0 0 (some 7) F_X7_puts := am_M_of (f := fl_X7_puts) (toR := fun x => (none, x)) (P := P_X7_puts) (Rr := am_rV) (own := RX7) (by decide) rfl (fun _ _ => rfl) s_X7_puts am_wrV am_rkV pf_RX7 pk_RX7 ps_RX7 (fun _ q => by cases q) (fun _ q => by cases q) (fun _ q => by cases q) (b_X7_puts l G)
def C_X7_whose : List AC := [(0, .aload_n 0, 1, []), (1, .getfield 7, 4, []), (4, .bipush 52, 6, []), (6, .iconst 2, 7, []), (7, .iload_n 1, 8, []), (8, .imul, 9, []), (9, .iadd, 10, []), (10, .iload_n 2, 11, []), (11, .iadd, 12, []), (12, .iaload, 13, []), (13, .ireturn, 14, [])]
theorem ok_X7_whose : ∀ x ∈ C_X7_whose, am_ok cX7_whose 3 x = true := by decide +kernel
noncomputable def P_X7_whose : AP := (PF_RX7, PK_RX7, PS_RX7, [], [], [])
noncomputable def f_X7_whose (a1 : Int32) (a2 : Int32) (h : HP) : Option (Int32 × HP) := (am_ix ((52 + (2 * a1)) + a2) 64).bind (fun k_1 => some (h_rI h 13 0 k_1, h))
noncomputable def fl_X7_whose : List AV → HP → Option (Int32 × HP) := fun as h => match as with
  | [.inr (.inr (.inl (7, 0))), .inl a1, .inl a2] => f_X7_whose a1 a2 h
  | _ => none
noncomputable def F_X7_whose : AF := .inl fl_X7_whose
set_option maxRecDepth 20000 in
theorem b_X7_whose (l : Launch) (G : AG) : am_B l G 3 cX7_whose RX7 am_tb P_X7_whose am_rI fl_X7_whose := by
  intro p e R s m args below meth c cells slots Q CX as h r q
  unfold fl_X7_whose at q
  split at q
  · exact am_run_ok CX ok_X7_whose (K := []) (am_K0 (Wp := am_W p l e R s m args below meth c cells slots G 3 (Q r))) 14 0 _ _ _ q
  · cases q
theorem s_X7_whose : ∀ as h x, fl_X7_whose as h = some x → (∀ k, (some 7 : Option Nat) = some k → ∃ (j : Nat) (as' : List AV), as = .inr (.inr (.inl (k, j))) :: as') ∧ (am_l0 as).length ≤ 3 := by
  intro as h x q
  unfold fl_X7_whose at q
  split at q
  · exact ⟨fun k e => by cases e; exact ⟨_, _, rfl⟩, Nat.le_of_ble_eq_true rfl⟩
  · cases q
theorem M_X7_whose (l : Launch) (G : AG) : am_M l G yX7_whose cX7_whose 3 (some .int) 0 0 (some 7) F_X7_whose := am_M_of (f := fl_X7_whose) (toR := fun x => (some (.inl x.1), x.2)) (P := P_X7_whose) (Rr := am_rI) (own := RX7) (by decide) rfl (fun _ _ => rfl) s_X7_whose am_wrI am_rkI pf_RX7 pk_RX7 ps_RX7 (fun _ q => by cases q) (fun _ q => by cases q) (fun _ q => by cases q) (b_X7_whose l G)
theorem cs_RX7_42 (l : Launch) (G : AG) {fr lo : Nat} (h1 : 0 + 1 ≤ fr) (h2 : 8 + (3 + 11) + 0 ≤ lo) : am_csOK l G RX7 fr lo (42, 3, F_X7_in) := Or.inl ⟨yX7_in, cX7_in, 3, (some .boolean), 0, 0, M_X7_in l G, ⟨(am_tb_mem (wd_17 _ (List.mem_of_getElem? (i := 18) rfl))), (am_tb_mem (wd_17 _ (List.mem_of_getElem? (i := 19) rfl))), (am_tb_mem (wd_1 _ (List.mem_of_getElem? (i := 26) rfl))), (am_tb_mem (wd_17 _ (List.mem_of_getElem? (i := 20) rfl)))⟩, ⟨by decide, by decide, by decide +kernel⟩, h1, h2⟩
def C_X7_isOne : List AC := [(0, .iload_n 1, 1, []), (1, .iconst 0, 2, []), (2, .aload_n 0, 3, []), (3, .getfield 7, 6, []), (6, .iconst 2, 7, []), (7, .iaload, 8, []), (8, .iconst 1, 9, []), (9, .isub, 10, []), (10, .invokestatic 42, 13, []), (13, .ireturn, 14, [])]
theorem ok_X7_isOne : ∀ x ∈ C_X7_isOne, am_ok cX7_isOne 2 x = true := by decide +kernel
noncomputable def P_X7_isOne : AP := (PF_RX7, PK_RX7, PS_RX7, [], [(42, 3, F_X7_in)], [])
noncomputable def f_X7_isOne (a1 : Int32) (h : HP) : Option (Int32 × HP) := (am_ix (2 : Int32) 64).bind (fun k_1 => (f_X7_in a1 0 ((h_rI h 13 0 k_1) - 1) h).bind (fun q_2 => some (q_2.1 &&& 1, q_2.2)))
noncomputable def fl_X7_isOne : List AV → HP → Option (Int32 × HP) := fun as h => match as with
  | [.inr (.inr (.inl (7, 0))), .inl a1] => f_X7_isOne a1 h
  | _ => none
noncomputable def F_X7_isOne : AF := .inl fl_X7_isOne
set_option maxRecDepth 20000 in
theorem b_X7_isOne (l : Launch) (G : AG) : am_B l G 2 cX7_isOne RX7 am_tb P_X7_isOne am_rZ fl_X7_isOne := by
  intro p e R s m args below meth c cells slots Q CX as h r q
  unfold fl_X7_isOne at q
  split at q
  · exact am_run_ok CX ok_X7_isOne (K := []) (am_K0 (Wp := am_W p l e R s m args below meth c cells slots G 2 (Q r))) 13 0 _ _ _ q
  · cases q
theorem s_X7_isOne : ∀ as h x, fl_X7_isOne as h = some x → (∀ k, (some 7 : Option Nat) = some k → ∃ (j : Nat) (as' : List AV), as = .inr (.inr (.inl (k, j))) :: as') ∧ (am_l0 as).length ≤ 2 := by
  intro as h x q
  unfold fl_X7_isOne at q
  split at q
  · exact ⟨fun k e => by cases e; exact ⟨_, _, rfl⟩, Nat.le_of_ble_eq_true rfl⟩
  · cases q
theorem M_X7_isOne (l : Launch) (G : AG) : am_M l G yX7_isOne cX7_isOne 2 (some .boolean) 1 22 (some 7) F_X7_isOne := am_M_of (f := fl_X7_isOne) (toR := fun x => (some (.inl x.1), x.2)) (P := P_X7_isOne) (Rr := am_rZ) (own := RX7) (by decide) rfl (fun _ _ => rfl) s_X7_isOne am_wrI am_rkZ pf_RX7 pk_RX7 ps_RX7 (fun _ q => by cases q) (List.forall_mem_cons.mpr ⟨cs_RX7_42 l G (by decide) (by decide), (fun _ q => by cases q)⟩) (fun _ q => by cases q) (b_X7_isOne l G)
def C_X7_isMember : List AC := [(0, .iload_n 1, 1, []), (1, .iconst 0, 2, []), (2, .aload_n 0, 3, []), (3, .getfield 7, 6, []), (6, .iconst 3, 7, []), (7, .iaload, 8, []), (8, .iconst 1, 9, []), (9, .isub, 10, []), (10, .invokestatic 42, 13, []), (13, .ireturn, 14, [])]
theorem ok_X7_isMember : ∀ x ∈ C_X7_isMember, am_ok cX7_isMember 2 x = true := by decide +kernel
noncomputable def P_X7_isMember : AP := (PF_RX7, PK_RX7, PS_RX7, [], [(42, 3, F_X7_in)], [])
noncomputable def f_X7_isMember (a1 : Int32) (h : HP) : Option (Int32 × HP) := (am_ix (3 : Int32) 64).bind (fun k_1 => (f_X7_in a1 0 ((h_rI h 13 0 k_1) - 1) h).bind (fun q_2 => some (q_2.1 &&& 1, q_2.2)))
noncomputable def fl_X7_isMember : List AV → HP → Option (Int32 × HP) := fun as h => match as with
  | [.inr (.inr (.inl (7, 0))), .inl a1] => f_X7_isMember a1 h
  | _ => none
noncomputable def F_X7_isMember : AF := .inl fl_X7_isMember
set_option maxRecDepth 20000 in
theorem b_X7_isMember (l : Launch) (G : AG) : am_B l G 2 cX7_isMember RX7 am_tb P_X7_isMember am_rZ fl_X7_isMember := by
  intro p e R s m args below meth c cells slots Q CX as h r q
  unfold fl_X7_isMember at q
  split at q
  · exact am_run_ok CX ok_X7_isMember (K := []) (am_K0 (Wp := am_W p l e R s m args below meth c cells slots G 2 (Q r))) 13 0 _ _ _ q
  · cases q
theorem s_X7_isMember : ∀ as h x, fl_X7_isMember as h = some x → (∀ k, (some 7 : Option Nat) = some k → ∃ (j : Nat) (as' : List AV), as = .inr (.inr (.inl (k, j))) :: as') ∧ (am_l0 as).length ≤ 2 := by
  intro as h x q
  unfold fl_X7_isMember at q
  split at q
  · exact ⟨fun k e => by cases e; exact ⟨_, _, rfl⟩, Nat.le_of_ble_eq_true rfl⟩
  · cases q
theorem M_X7_isMember (l : Launch) (G : AG) : am_M l G yX7_isMember cX7_isMember 2 (some .boolean) 1 22 (some 7) F_X7_isMember := am_M_of (f := fl_X7_isMember) (toR := fun x => (some (.inl x.1), x.2)) (P := P_X7_isMember) (Rr := am_rZ) (own := RX7) (by decide) rfl (fun _ _ => rfl) s_X7_isMember am_wrI am_rkZ pf_RX7 pk_RX7 ps_RX7 (fun _ q => by cases q) (List.forall_mem_cons.mpr ⟨cs_RX7_42 l G (by decide) (by decide), (fun _ q => by cases q)⟩) (fun _ q => by cases q) (b_X7_isMember l G)
def C_X7_isRoom : List AC := [(0, .iload_n 0, 1, []), (1, .iconst 0, 2, []), (2, .bipush 15, 4, []), (4, .invokestatic 42, 7, []), (7, .ireturn, 8, [])]
theorem ok_X7_isRoom : ∀ x ∈ C_X7_isRoom, am_ok cX7_isRoom 1 x = true := by decide +kernel
noncomputable def P_X7_isRoom : AP := (PF_RX7, PK_RX7, PS_RX7, [], [(42, 3, F_X7_in)], [])
noncomputable def f_X7_isRoom (a1 : Int32) (h : HP) : Option (Int32 × HP) := (f_X7_in a1 0 15 h).bind (fun q_1 => some (q_1.1 &&& 1, q_1.2))
noncomputable def fl_X7_isRoom : List AV → HP → Option (Int32 × HP) := fun as h => match as with
  | [.inl a1] => f_X7_isRoom a1 h
  | _ => none
noncomputable def F_X7_isRoom : AF := .inl fl_X7_isRoom
set_option maxRecDepth 20000 in
theorem b_X7_isRoom (l : Launch) (G : AG) : am_B l G 1 cX7_isRoom RX7 am_tb P_X7_isRoom am_rZ fl_X7_isRoom := by
  intro p e R s m args below meth c cells slots Q CX as h r q
  unfold fl_X7_isRoom at q
  split at q
  · exact am_run_ok CX ok_X7_isRoom (K := []) (am_K0 (Wp := am_W p l e R s m args below meth c cells slots G 1 (Q r))) 8 0 _ _ _ q
  · cases q
theorem s_X7_isRoom : ∀ as h x, fl_X7_isRoom as h = some x → (∀ k, (none : Option Nat) = some k → ∃ (j : Nat) (as' : List AV), as = .inr (.inr (.inl (k, j))) :: as') ∧ (am_l0 as).length ≤ 1 := by
  intro as h x q
  unfold fl_X7_isRoom at q
  split at q
  · exact ⟨fun k e => (by cases e), Nat.le_of_ble_eq_true rfl⟩
  · cases q
theorem M_X7_isRoom (l : Launch) (G : AG) : am_M l G yX7_isRoom cX7_isRoom 1 (some .boolean) 1 22 none F_X7_isRoom := am_M_of (f := fl_X7_isRoom) (toR := fun x => (some (.inl x.1), x.2)) (P := P_X7_isRoom) (Rr := am_rZ) (own := RX7) (by decide) rfl (fun _ _ => rfl) s_X7_isRoom am_wrI am_rkZ pf_RX7 pk_RX7 ps_RX7 (fun _ q => by cases q) (List.forall_mem_cons.mpr ⟨cs_RX7_42 l G (by decide) (by decide), (fun _ q => by cases q)⟩) (fun _ q => by cases q) (b_X7_isRoom l G)
def C_X7_isKind : List AC := [(0, .iload_n 0, 1, []), (1, .iconst 0, 2, []), (2, .iconst 5, 3, []), (3, .invokestatic 42, 6, []), (6, .ireturn, 7, [])]
theorem ok_X7_isKind : ∀ x ∈ C_X7_isKind, am_ok cX7_isKind 1 x = true := by decide +kernel
noncomputable def P_X7_isKind : AP := (PF_RX7, PK_RX7, PS_RX7, [], [(42, 3, F_X7_in)], [])
noncomputable def f_X7_isKind (a1 : Int32) (h : HP) : Option (Int32 × HP) := (f_X7_in a1 0 5 h).bind (fun q_1 => some (q_1.1 &&& 1, q_1.2))
noncomputable def fl_X7_isKind : List AV → HP → Option (Int32 × HP) := fun as h => match as with
  | [.inl a1] => f_X7_isKind a1 h
  | _ => none
noncomputable def F_X7_isKind : AF := .inl fl_X7_isKind
set_option maxRecDepth 20000 in
theorem b_X7_isKind (l : Launch) (G : AG) : am_B l G 1 cX7_isKind RX7 am_tb P_X7_isKind am_rZ fl_X7_isKind := by
  intro p e R s m args below meth c cells slots Q CX as h r q
  unfold fl_X7_isKind at q
  split at q
  · exact am_run_ok CX ok_X7_isKind (K := []) (am_K0 (Wp := am_W p l e R s m args below meth c cells slots G 1 (Q r))) 8 0 _ _ _ q
  · cases q
theorem s_X7_isKind : ∀ as h x, fl_X7_isKind as h = some x → (∀ k, (none : Option Nat) = some k → ∃ (j : Nat) (as' : List AV), as = .inr (.inr (.inl (k, j))) :: as') ∧ (am_l0 as).length ≤ 1 := by
  intro as h x q
  unfold fl_X7_isKind at q
  split at q
  · exact ⟨fun k e => (by cases e), Nat.le_of_ble_eq_true rfl⟩
  · cases q
theorem M_X7_isKind (l : Launch) (G : AG) : am_M l G yX7_isKind cX7_isKind 1 (some .boolean) 1 22 none F_X7_isKind := am_M_of (f := fl_X7_isKind) (toR := fun x => (some (.inl x.1), x.2)) (P := P_X7_isKind) (Rr := am_rZ) (own := RX7) (by decide) rfl (fun _ _ => rfl) s_X7_isKind am_wrI am_rkZ pf_RX7 pk_RX7 ps_RX7 (fun _ q => by cases q) (List.forall_mem_cons.mpr ⟨cs_RX7_42 l G (by decide) (by decide), (fun _ q => by cases q)⟩) (fun _ q => by cases q) (b_X7_isKind l G)
def C_X7_bits : List AC := [(0, .iconst 0, 1, []), (1, .istore_n 1, 2, []), (2, .iload_n 0, 3, []), (3, .istore_n 2, 4, []), (4, .iload_n 2, 5, []), (5, .ifCond .eq 15, 8, [20]), (8, .iinc 1 1, 11, []), (11, .iload_n 2, 12, []), (12, .iload_n 2, 13, []), (13, .iconst 1, 14, []), (14, .isub, 15, []), (15, .iand, 16, []), (16, .istore_n 2, 17, []), (17, .goto (-13), 20, [4]), (20, .iload_n 1, 21, []), (21, .ireturn, 22, [])]
theorem ok_X7_bits : ∀ x ∈ C_X7_bits, am_ok cX7_bits 3 x = true := by decide +kernel
noncomputable def P_X7_bits : AP := (PF_RX7, PK_RX7, PS_RX7, [], [], [])
noncomputable def g_X7_bits_4  : Nat → Int32 → Int32 → HP → Option (Int32 × HP)
  | 0, _, _, _ => none
  | n + 1, a1, a2, h => if a2 = (0 : Int32) then (some (a1, h)) else (g_X7_bits_4 n (a1 + 1) (a2 &&& (a2 - 1)) h)
def pk_X7_bits_4 (k : Int32 → Int32 → HP → Option (Int32 × HP)) : List AV → List AV → HP → Option (Int32 × HP) := fun L st h => match L, st with
  | [.inl _, .inl a1, .inl a2], [] => k a1 a2 h
  | _, _ => none
theorem pk_X7_bits_4_ok {Wp : List AV → List AV → HP → Prop} {r : (Int32 × HP)} {k : Int32 → Int32 → HP → Option (Int32 × HP)} (hk : ∀ (a1 : Int32) (a2 : Int32) (w1 : Int32) (h : HP), k a1 a2 h = some r → Wp [.inl w1, .inl a1, .inl a2] [] h) : ∀ L st h, pk_X7_bits_4 k L st h = some r → Wp L st h := by
  intro L st h q
  unfold pk_X7_bits_4 at q
  split at q
  · exact hk _ _ _ _ q
  · cases q
noncomputable def f_X7_bits (a1 : Int32) (h : HP) : Option (Int32 × HP) := g_X7_bits_4 am_fu 0 a1 h
noncomputable def fl_X7_bits : List AV → HP → Option (Int32 × HP) := fun as h => match as with
  | [.inl a1] => f_X7_bits a1 h
  | _ => none
noncomputable def F_X7_bits : AF := .inl fl_X7_bits
set_option maxRecDepth 20000 in
theorem w_X7_bits_4 {p : Program} {l : Launch} {e : Env} {R : Room} {s : State} {m : MethodId} {args : Array Value} {below : List Frame} {meth : Method} {c : Code} {cells slots : Nat} {G : AG} {Q : (Int32 × HP) → State → Prop} (CX : am_X p l e R s m args below meth c cells slots G 3 cX7_bits RX7 am_tb P_X7_bits am_rI Q) {r : (Int32 × HP)} : ∀ (n : Nat) (a1 : Int32) (a2 : Int32) (w1 : Int32) (h : HP), g_X7_bits_4 n a1 a2 h = some r → am_W p l e R s m args below meth c cells slots G 3 (Q r) 4 [.inl w1, .inl a1, .inl a2] [] h := by
  intro n
  induction n with
  | zero =>
    intro a1 a2 w1 h q
    have q9 : (none : Option (Int32 × HP)) = some r := q
    cases q9
  | succ n ih =>
    intro a1 a2 w1 h q
    exact am_run_ok CX ok_X7_bits (K := [(4, pk_X7_bits_4 (g_X7_bits_4 n))]) (am_K1 (Wp := am_W p l e R s m args below meth c cells slots G 3 (Q r)) (pk_X7_bits_4_ok (Wp := am_W p l e R s m args below meth c cells slots G 3 (Q r) 4) ih) am_K0) 13 4 _ _ _ q
set_option maxRecDepth 20000 in
theorem b_X7_bits (l : Launch) (G : AG) : am_B l G 3 cX7_bits RX7 am_tb P_X7_bits am_rI fl_X7_bits := by
  intro p e R s m args below meth c cells slots Q CX as h r q
  unfold fl_X7_bits at q
  split at q
  · exact am_run_ok CX ok_X7_bits (K := [(4, pk_X7_bits_4 (g_X7_bits_4 am_fu))]) (am_K1 (Wp := am_W p l e R s m args below meth c cells slots G 3 (Q r)) (pk_X7_bits_4_ok (Wp := am_W p l e R s m args below meth c cells slots G 3 (Q r) 4) (w_X7_bits_4 CX am_fu)) am_K0) 7 0 _ _ _ q
  · cases q
theorem s_X7_bits : ∀ as h x, fl_X7_bits as h = some x → (∀ k, (none : Option Nat) = some k → ∃ (j : Nat) (as' : List AV), as = .inr (.inr (.inl (k, j))) :: as') ∧ (am_l0 as).length ≤ 3 := by
  intro as h x q
  unfold fl_X7_bits at q
  split at q
  · exact ⟨fun k e => (by cases e), Nat.le_of_ble_eq_true rfl⟩
  · cases q
theorem M_X7_bits (l : Launch) (G : AG) : am_M l G yX7_bits cX7_bits 3 (some .int) 0 0 none F_X7_bits := am_M_of (f := fl_X7_bits) (toR := fun x => (some (.inl x.1), x.2)) (P := P_X7_bits) (Rr := am_rI) (own := RX7) (by decide) rfl (fun _ _ => rfl) s_X7_bits am_wrI am_rkI pf_RX7 pk_RX7 ps_RX7 (fun _ q => by cases q) (fun _ q => by cases q) (fun _ q => by cases q) (b_X7_bits l G)
theorem cv_RX7_46 (l : Launch) (G : AG) {fr lo : Nat} (h1 : 0 + 1 ≤ fr) (h2 : 8 + (3 + 11) + 0 ≤ lo) : am_cvOK l G RX7 fr lo (46, 3, F_X7_its) := ⟨yX7_its, cX7_its, 3, (some .int), 0, 0, 7, RX7, M_X7_its l G, ⟨(am_tb_mem (wd_18 _ (List.mem_of_getElem? (i := 5) rfl))), (am_tb_mem (wd_18 _ (List.mem_of_getElem? (i := 6) rfl))), (am_tb_mem (wd_0 _ (List.mem_of_getElem? (i := 17) rfl))), (am_tb_mem (wd_1 _ (List.mem_of_getElem? (i := 26) rfl))), (am_tb_mem (wd_18 _ (List.mem_of_getElem? (i := 7) rfl)))⟩, ⟨rfl, by decide, by decide, by decide +kernel⟩, Or.inl ⟨by decide, rfl⟩, h1, h2⟩
def C_X7_isLate : List AC := [(0, .aload_n 0, 1, []), (1, .iload_n 1, 2, []), (2, .iconst 4, 3, []), (3, .invokevirtual 46, 6, []), (6, .ifCond .lt 22, 9, [28]), (9, .aload_n 0, 10, []), (10, .iload_n 1, 11, []), (11, .iconst 5, 12, []), (12, .invokevirtual 46, 15, []), (15, .aload_n 0, 16, []), (16, .getfield 7, 19, []), (19, .iconst 1, 20, []), (20, .iaload, 21, []), (21, .if_icmp .le 7, 24, [28]), (24, .iconst 1, 25, []), (25, .goto 4, 28, [29]), (28, .iconst 0, 29, []), (29, .ireturn, 30, [])]
theorem ok_X7_isLate : ∀ x ∈ C_X7_isLate, am_ok cX7_isLate 2 x = true := by decide +kernel
noncomputable def P_X7_isLate : AP := (PF_RX7, PK_RX7, PS_RX7, [(46, 3, F_X7_its)], [], [])
noncomputable def f_X7_isLate (a1 : Int32) (h : HP) : Option (Int32 × HP) := (f_X7_its a1 4 h).bind (fun q_1 => if q_1.1 < (0 : Int32) then (some (0, q_1.2)) else ((f_X7_its a1 5 q_1.2).bind (fun q_2 => (am_ix (1 : Int32) 64).bind (fun k_3 => if q_2.1 ≤ h_rI q_2.2 13 0 k_3 then (some (0, q_2.2)) else (some (1, q_2.2))))))
noncomputable def fl_X7_isLate : List AV → HP → Option (Int32 × HP) := fun as h => match as with
  | [.inr (.inr (.inl (7, 0))), .inl a1] => f_X7_isLate a1 h
  | _ => none
noncomputable def F_X7_isLate : AF := .inl fl_X7_isLate
set_option maxRecDepth 20000 in
theorem b_X7_isLate (l : Launch) (G : AG) : am_B l G 2 cX7_isLate RX7 am_tb P_X7_isLate am_rZ fl_X7_isLate := by
  intro p e R s m args below meth c cells slots Q CX as h r q
  unfold fl_X7_isLate at q
  split at q
  · exact am_run_ok CX ok_X7_isLate (K := []) (am_K0 (Wp := am_W p l e R s m args below meth c cells slots G 2 (Q r))) 20 0 _ _ _ q
  · cases q
theorem s_X7_isLate : ∀ as h x, fl_X7_isLate as h = some x → (∀ k, (some 7 : Option Nat) = some k → ∃ (j : Nat) (as' : List AV), as = .inr (.inr (.inl (k, j))) :: as') ∧ (am_l0 as).length ≤ 2 := by
  intro as h x q
  unfold fl_X7_isLate at q
  split at q
  · exact ⟨fun k e => by cases e; exact ⟨_, _, rfl⟩, Nat.le_of_ble_eq_true rfl⟩
  · cases q
theorem M_X7_isLate (l : Launch) (G : AG) : am_M l G yX7_isLate cX7_isLate 2 (some .boolean) 1 22 (some 7) F_X7_isLate := am_M_of (f := fl_X7_isLate) (toR := fun x => (some (.inl x.1), x.2)) (P := P_X7_isLate) (Rr := am_rZ) (own := RX7) (by decide) rfl (fun _ _ => rfl) s_X7_isLate am_wrI am_rkZ pf_RX7 pk_RX7 ps_RX7 (List.forall_mem_cons.mpr ⟨cv_RX7_46 l G (by decide) (by decide), (fun _ q => by cases q)⟩) (fun _ q => by cases q) (fun _ q => by cases q) (b_X7_isLate l G)
theorem cv_RX7_50 (l : Launch) (G : AG) {fr lo : Nat} (h1 : 1 + 1 ≤ fr) (h2 : 8 + (2 + 11) + 22 ≤ lo) : am_cvOK l G RX7 fr lo (50, 2, F_X7_isLate) := ⟨yX7_isLate, cX7_isLate, 2, (some .boolean), 1, 22, 7, RX7, M_X7_isLate l G, ⟨(am_tb_mem (wd_18 _ (List.mem_of_getElem? (i := 2) rfl))), (am_tb_mem (wd_18 _ (List.mem_of_getElem? (i := 3) rfl))), (am_tb_mem (wd_0 _ (List.mem_of_getElem? (i := 16) rfl))), (am_tb_mem (wd_1 _ (List.mem_of_getElem? (i := 26) rfl))), (am_tb_mem (wd_18 _ (List.mem_of_getElem? (i := 4) rfl)))⟩, ⟨rfl, by decide, by decide, by decide +kernel⟩, Or.inl ⟨by decide, rfl⟩, h1, h2⟩
def C_X7_moved : List AC := [(0, .aload_n 0, 1, []), (1, .iload_n 1, 2, []), (2, .invokevirtual 50, 5, []), (5, .ifCond .eq 19, 8, [24]), (8, .aload_n 0, 9, []), (9, .iload_n 1, 10, []), (10, .iconst 5, 11, []), (11, .invokevirtual 46, 14, []), (14, .aload_n 0, 15, []), (15, .getfield 7, 18, []), (18, .iconst 1, 19, []), (19, .iaload, 20, []), (20, .isub, 21, []), (21, .goto 4, 24, [25]), (24, .iconst 0, 25, []), (25, .istore_n 2, 26, []), (26, .aload_n 0, 27, []), (27, .iload_n 1, 28, []), (28, .iconst 0, 29, []), (29, .invokevirtual 46, 32, []), (32, .tableswitch 38 2 5 #[32, 38, 36, 32], 64, [70, 64, 70, 68, 64]), (64, .iconst 2, 65, []), (65, .iload_n 2, 66, []), (66, .imul, 67, []), (67, .ireturn, 68, []), (68, .iconst 0, 69, []), (69, .ireturn, 70, []), (70, .iload_n 2, 71, []), (71, .ireturn, 72, [])]
theorem ok_X7_moved : ∀ x ∈ C_X7_moved, am_ok cX7_moved 3 x = true := by decide +kernel
noncomputable def P_X7_moved : AP := (PF_RX7, PK_RX7, PS_RX7, [(46, 3, F_X7_its), (50, 2, F_X7_isLate)], [], [])
noncomputable def g_X7_moved_25 (a1 : Int32) (a2 : Int32) (h : HP) : Option (Int32 × HP) := (f_X7_its a1 0 h).bind (fun q_1 => if q_1.1 = 2 then (some (2 * a2, q_1.2)) else (if q_1.1 = 3 then (some (a2, q_1.2)) else (if q_1.1 = 4 then (some (0, q_1.2)) else (if q_1.1 = 5 then (some (2 * a2, q_1.2)) else (some (a2, q_1.2))))))
def pk_X7_moved_25 (k : Int32 → Int32 → HP → Option (Int32 × HP)) : List AV → List AV → HP → Option (Int32 × HP) := fun L st h => match L, st with
  | [.inr (.inr (.inl (7, 0))), .inl a1, .inr (.inr (.inr ()))], [.inl a2] => k a1 a2 h
  | _, _ => none
theorem pk_X7_moved_25_ok {Wp : List AV → List AV → HP → Prop} {r : (Int32 × HP)} {k : Int32 → Int32 → HP → Option (Int32 × HP)} (hk : ∀ (a1 : Int32) (a2 : Int32) (h : HP), k a1 a2 h = some r → Wp [.inr (.inr (.inl (7, 0))), .inl a1, .inr (.inr (.inr ()))] [.inl a2] h) : ∀ L st h, pk_X7_moved_25 k L st h = some r → Wp L st h := by
  intro L st h q
  unfold pk_X7_moved_25 at q
  split at q
  · exact hk _ _ _ q
  · cases q
noncomputable def f_X7_moved (a1 : Int32) (h : HP) : Option (Int32 × HP) := (f_X7_isLate a1 h).bind (fun q_1 => if q_1.1 = (0 : Int32) then (g_X7_moved_25 a1 0 q_1.2) else ((f_X7_its a1 5 q_1.2).bind (fun q_2 => (am_ix (1 : Int32) 64).bind (fun k_3 => g_X7_moved_25 a1 (q_2.1 - (h_rI q_2.2 13 0 k_3)) q_2.2))))
noncomputable def fl_X7_moved : List AV → HP → Option (Int32 × HP) := fun as h => match as with
  | [.inr (.inr (.inl (7, 0))), .inl a1] => f_X7_moved a1 h
  | _ => none
noncomputable def F_X7_moved : AF := .inl fl_X7_moved
set_option maxRecDepth 20000 in
theorem w_X7_moved_25 {p : Program} {l : Launch} {e : Env} {R : Room} {s : State} {m : MethodId} {args : Array Value} {below : List Frame} {meth : Method} {c : Code} {cells slots : Nat} {G : AG} {Q : (Int32 × HP) → State → Prop} (CX : am_X p l e R s m args below meth c cells slots G 3 cX7_moved RX7 am_tb P_X7_moved am_rI Q) {r : (Int32 × HP)} : ∀ (a1 : Int32) (a2 : Int32) (h : HP), g_X7_moved_25 a1 a2 h = some r → am_W p l e R s m args below meth c cells slots G 3 (Q r) 25 [.inr (.inr (.inl (7, 0))), .inl a1, .inr (.inr (.inr ()))] [.inl a2] h := by
  intro a1 a2 h q
  exact am_run_ok CX ok_X7_moved (K := []) (am_K0 (Wp := am_W p l e R s m args below meth c cells slots G 3 (Q r))) 13 25 _ _ _ q
set_option maxRecDepth 20000 in
theorem b_X7_moved (l : Launch) (G : AG) : am_B l G 3 cX7_moved RX7 am_tb P_X7_moved am_rI fl_X7_moved := by
  intro p e R s m args below meth c cells slots Q CX as h r q
  unfold fl_X7_moved at q
  split at q
  · exact am_run_ok CX ok_X7_moved (K := [(25, pk_X7_moved_25 (g_X7_moved_25))]) (am_K1 (Wp := am_W p l e R s m args below meth c cells slots G 3 (Q r)) (pk_X7_moved_25_ok (Wp := am_W p l e R s m args below meth c cells slots G 3 (Q r) 25) (w_X7_moved_25 CX)) am_K0) 17 0 _ _ _ q
  · cases q
theorem s_X7_moved : ∀ as h x, fl_X7_moved as h = some x → (∀ k, (some 7 : Option Nat) = some k → ∃ (j : Nat) (as' : List AV), as = .inr (.inr (.inl (k, j))) :: as') ∧ (am_l0 as).length ≤ 3 := by
  intro as h x q
  unfold fl_X7_moved at q
  split at q
  · exact ⟨fun k e => by cases e; exact ⟨_, _, rfl⟩, Nat.le_of_ble_eq_true rfl⟩
  · cases q
theorem M_X7_moved (l : Launch) (G : AG) : am_M l G yX7_moved cX7_moved 3 (some .int) 2 43 (some 7) F_X7_moved := am_M_of (f := fl_X7_moved) (toR := fun x => (some (.inl x.1), x.2)) (P := P_X7_moved) (Rr := am_rI) (own := RX7) (by decide) rfl (fun _ _ => rfl) s_X7_moved am_wrI am_rkI pf_RX7 pk_RX7 ps_RX7 (List.forall_mem_cons.mpr ⟨cv_RX7_46 l G (by decide) (by decide), (List.forall_mem_cons.mpr ⟨cv_RX7_50 l G (by decide) (by decide), (fun _ q => by cases q)⟩)⟩) (fun _ q => by cases q) (fun _ q => by cases q) (b_X7_moved l G)
theorem cv_RX7_54 (l : Launch) (G : AG) {fr lo : Nat} (h1 : 2 + 1 ≤ fr) (h2 : 8 + (3 + 11) + 43 ≤ lo) : am_cvOK l G RX7 fr lo (54, 2, F_X7_moved) := ⟨yX7_moved, cX7_moved, 3, (some .int), 2, 43, 7, RX7, M_X7_moved l G, ⟨(am_tb_mem (wd_18 _ (List.mem_of_getElem? (i := 11) rfl))), (am_tb_mem (wd_18 _ (List.mem_of_getElem? (i := 12) rfl))), (am_tb_mem (wd_0 _ (List.mem_of_getElem? (i := 19) rfl))), (am_tb_mem (wd_1 _ (List.mem_of_getElem? (i := 26) rfl))), (am_tb_mem (wd_18 _ (List.mem_of_getElem? (i := 13) rfl)))⟩, ⟨rfl, by decide, by decide, by decide +kernel⟩, Or.inl ⟨by decide, rfl⟩, h1, h2⟩
def C_X7_endOf : List AC := [(0, .aload_n 0, 1, []), (1, .iload_n 1, 2, []), (2, .iconst 2, 3, []), (3, .invokevirtual 46, 6, []), (6, .aload_n 0, 7, []), (7, .iload_n 1, 8, []), (8, .invokevirtual 54, 11, []), (11, .iadd, 12, []), (12, .bipush 16, 14, []), (14, .irem, 15, []), (15, .ireturn, 16, [])]
theorem ok_X7_endOf : ∀ x ∈ C_X7_endOf, am_ok cX7_endOf 2 x = true := by decide +kernel
noncomputable def P_X7_endOf : AP := (PF_RX7, PK_RX7, PS_RX7, [(46, 3, F_X7_its), (54, 2, F_X7_moved)], [], [])
noncomputable def f_X7_endOf (a1 : Int32) (h : HP) : Option (Int32 × HP) := (f_X7_its a1 2 h).bind (fun q_1 => (f_X7_moved a1 q_1.2).bind (fun q_2 => some ((q_1.1 + q_2.1) - (q_1.1 + q_2.1) / 16 * 16, q_2.2)))
noncomputable def fl_X7_endOf : List AV → HP → Option (Int32 × HP) := fun as h => match as with
  | [.inr (.inr (.inl (7, 0))), .inl a1] => f_X7_endOf a1 h
  | _ => none
noncomputable def F_X7_endOf : AF := .inl fl_X7_endOf
set_option maxRecDepth 20000 in
theorem b_X7_endOf (l : Launch) (G : AG) : am_B l G 2 cX7_endOf RX7 am_tb P_X7_endOf am_rI fl_X7_endOf := by
  intro p e R s m args below meth c cells slots Q CX as h r q
  unfold fl_X7_endOf at q
  split at q
  · exact am_run_ok CX ok_X7_endOf (K := []) (am_K0 (Wp := am_W p l e R s m args below meth c cells slots G 2 (Q r))) 14 0 _ _ _ q
  · cases q
theorem s_X7_endOf : ∀ as h x, fl_X7_endOf as h = some x → (∀ k, (some 7 : Option Nat) = some k → ∃ (j : Nat) (as' : List AV), as = .inr (.inr (.inl (k, j))) :: as') ∧ (am_l0 as).length ≤ 2 := by
  intro as h x q
  unfold fl_X7_endOf at q
  split at q
  · exact ⟨fun k e => by cases e; exact ⟨_, _, rfl⟩, Nat.le_of_ble_eq_true rfl⟩
  · cases q
theorem M_X7_endOf (l : Launch) (G : AG) : am_M l G yX7_endOf cX7_endOf 2 (some .int) 3 65 (some 7) F_X7_endOf := am_M_of (f := fl_X7_endOf) (toR := fun x => (some (.inl x.1), x.2)) (P := P_X7_endOf) (Rr := am_rI) (own := RX7) (by decide) rfl (fun _ _ => rfl) s_X7_endOf am_wrI am_rkI pf_RX7 pk_RX7 ps_RX7 (List.forall_mem_cons.mpr ⟨cv_RX7_46 l G (by decide) (by decide), (List.forall_mem_cons.mpr ⟨cv_RX7_54 l G (by decide) (by decide), (fun _ q => by cases q)⟩)⟩) (fun _ q => by cases q) (fun _ q => by cases q) (b_X7_endOf l G)
theorem cv_RX7_58 (l : Launch) (G : AG) {fr lo : Nat} (h1 : 3 + 1 ≤ fr) (h2 : 8 + (2 + 11) + 65 ≤ lo) : am_cvOK l G RX7 fr lo (58, 2, F_X7_endOf) := ⟨yX7_endOf, cX7_endOf, 2, (some .int), 3, 65, 7, RX7, M_X7_endOf l G, ⟨(am_tb_mem (wd_18 _ (List.mem_of_getElem? (i := 8) rfl))), (am_tb_mem (wd_18 _ (List.mem_of_getElem? (i := 9) rfl))), (am_tb_mem (wd_0 _ (List.mem_of_getElem? (i := 18) rfl))), (am_tb_mem (wd_1 _ (List.mem_of_getElem? (i := 26) rfl))), (am_tb_mem (wd_18 _ (List.mem_of_getElem? (i := 10) rfl)))⟩, ⟨rfl, by decide, by decide, by decide +kernel⟩, Or.inl ⟨by decide, rfl⟩, h1, h2⟩
def C_X7_opens : List AC := [(0, .aload_n 0, 1, []), (1, .iload_n 1, 2, []), (2, .iconst 3, 3, []), (3, .invokevirtual 46, 6, []), (6, .istore_n 3, 7, []), (7, .iload_n 2, 8, []), (8, .aload_n 0, 9, []), (9, .iload_n 1, 10, []), (10, .iconst 1, 11, []), (11, .invokevirtual 46, 14, []), (14, .if_icmp .ne 7, 17, [21]), (17, .iconst 1, 18, []), (18, .goto 4, 21, [22]), (21, .iconst 0, 22, []), (22, .istore 4, 24, []), (24, .iload_n 2, 25, []), (25, .aload_n 0, 26, []), (26, .iload_n 1, 27, []), (27, .invokevirtual 58, 30, []), (30, .if_icmp .ne 7, 33, [37]), (33, .iconst 1, 34, []), (34, .goto 4, 37, [38]), (37, .iconst 0, 38, []), (38, .istore 5, 40, []), (40, .iload 4, 42, []), (42, .ifCond .ne 8, 45, [50]), (45, .iload 5, 47, []), (47, .ifCond .eq 13, 50, [60]), (50, .iload_n 3, 51, []), (51, .bipush 99, 53, []), (53, .if_icmp .ge 7, 56, [60]), (56, .iconst 1, 57, []), (57, .goto 4, 60, [61]), (60, .iconst 0, 61, []), (61, .istore 6, 63, []), (63, .aload_n 0, 64, []), (64, .iload_n 1, 65, []), (65, .iconst 0, 66, []), (66, .invokevirtual 46, 69, []), (69, .tableswitch 158 1 5 #[35, 52, 68, 95, 134], 104, [227, 104, 121, 137, 164, 203]), (104, .iload 6, 106, []), (106, .ifCond .eq 13, 109, [119]), (109, .iload_n 3, 110, []), (110, .bipush 50, 112, []), (112, .if_icmp .ge 7, 115, [119]), (115, .iconst 1, 116, []), (116, .goto 4, 119, [120]), (119, .iconst 0, 120, []), (120, .ireturn, 121, []), (121, .iload 6, 123, []), (123, .ifCond .eq 12, 126, [135]), (126, .iload 4, 128, []), (128, .ifCond .eq 7, 131, [135]), (131, .iconst 1, 132, []), (132, .goto 4, 135, [136]), (135, .iconst 0, 136, []), (136, .ireturn, 137, []), (137, .iload 6, 139, []), (139, .ifCond .eq 23, 142, [162]), (142, .iload 4, 144, []), (144, .ifCond .ne 14, 147, [158]), (147, .aload_n 0, 148, []), (148, .getfield 7, 151, []), (151, .iconst 0, 152, []), (152, .iaload, 153, []), (153, .iconst 2, 154, []), (154, .irem, 155, []), (155, .ifCond .ne 7, 158, [162]), (158, .iconst 1, 159, []), (159, .goto 4, 162, [163]), (162, .iconst 0, 163, []), (163, .ireturn, 164, []), (164, .iload 6, 166, []), (166, .ifCond .eq 9, 169, [175]), (169, .iload_n 3, 170, []), (170, .bipush 50, 172, []), (172, .if_icmp .lt 25, 175, [197]), (175, .iload_n 2, 176, []), (176, .aload_n 0, 177, []), (177, .iload_n 1, 178, []), (178, .iconst 1, 179, []), (179, .invokevirtual 46, 182, []), (182, .bipush 8, 184, []), (184, .iadd, 185, []), (185, .bipush 16, 187, []), (187, .irem, 188, []), (188, .if_icmp .ne 13, 191, [201]), (191, .iload_n 3, 192, []), (192, .bipush 10, 194, []), (194, .if_icmp .ge 7, 197, [201]), (197, .iconst 1, 198, []), (198, .goto 4, 201, [202]), (201, .iconst 0, 202, []), (202, .ireturn, 203, []), (203, .iload 6, 205, []), (205, .ifCond .eq 20, 208, [225]), (208, .iload 4, 210, []), (210, .ifCond .ne 11, 213, [221]), (213, .aload_n 0, 214, []), (214, .iload_n 1, 215, []), (215, .invokevirtual 50, 218, []), (218, .ifCond .eq 7, 221, [225]), (221, .iconst 1, 222, []), (222, .goto 4, 225, [226]), (225, .iconst 0, 226, []), (226, .ireturn, 227, []), (227, .iload 6, 229, []), (229, .ireturn, 230, [])]
theorem ok_X7_opens : ∀ x ∈ C_X7_opens, am_ok cX7_opens 7 x = true := by decide +kernel
noncomputable def P_X7_opens : AP := (PF_RX7, PK_RX7, PS_RX7, [(46, 3, F_X7_its), (50, 2, F_X7_isLate), (58, 2, F_X7_endOf)], [], [])
noncomputable def g_X7_opens_175 (a1 : Int32) (a2 : Int32) (a3 : Int32) (h : HP) : Option (Int32 × HP) := (f_X7_its a1 1 h).bind (fun q_1 => if a2 = (q_1.1 + 8) - (q_1.1 + 8) / 16 * 16 then (if (10 : Int32) ≤ a3 then (some (0, q_1.2)) else (some (1, q_1.2))) else (some (0, q_1.2)))
def pk_X7_opens_175 (k : Int32 → Int32 → Int32 → HP → Option (Int32 × HP)) : List AV → List AV → HP → Option (Int32 × HP) := fun L st h => match L, st with
  | [.inr (.inr (.inl (7, 0))), .inl a1, .inl a2, .inl a3, .inl _, .inl _, .inl _], [] => k a1 a2 a3 h
  | _, _ => none
theorem pk_X7_opens_175_ok {Wp : List AV → List AV → HP → Prop} {r : (Int32 × HP)} {k : Int32 → Int32 → Int32 → HP → Option (Int32 × HP)} (hk : ∀ (a1 : Int32) (a2 : Int32) (a3 : Int32) (w1 : Int32) (w2 : Int32) (w3 : Int32) (h : HP), k a1 a2 a3 h = some r → Wp [.inr (.inr (.inl (7, 0))), .inl a1, .inl a2, .inl a3, .inl w1, .inl w2, .inl w3] [] h) : ∀ L st h, pk_X7_opens_175 k L st h = some r → Wp L st h := by
  intro L st h q
  unfold pk_X7_opens_175 at q
  split at q
  · exact hk _ _ _ _ _ _ _ q
  · cases q
noncomputable def g_X7_opens_61 (a1 : Int32) (a2 : Int32) (a3 : Int32) (a4 : Int32) (a5 : Int32) (h : HP) : Option (Int32 × HP) := (f_X7_its a1 0 h).bind (fun q_1 => if q_1.1 = 1 then (if a5 = (0 : Int32) then (some (0, q_1.2)) else (if (50 : Int32) ≤ a3 then (some (0, q_1.2)) else (some (1, q_1.2)))) else (if q_1.1 = 2 then (if a5 = (0 : Int32) then (some (0, q_1.2)) else (if a4 = (0 : Int32) then (some (0, q_1.2)) else (some (1, q_1.2)))) else (if q_1.1 = 3 then (if a5 = (0 : Int32) then (some (0, q_1.2)) else (if a4 = (0 : Int32) then ((am_ix (0 : Int32) 64).bind (fun k_2 => if (h_rI q_1.2 13 0 k_2) - (h_rI q_1.2 13 0 k_2) / 2 * 2 = (0 : Int32) then (some (1, q_1.2)) else (some (0, q_1.2)))) else (some (1, q_1.2)))) else (if q_1.1 = 4 then (if a5 = (0 : Int32) then (g_X7_opens_175 a1 a2 a3 q_1.2) else (if a3 < (50 : Int32) then (some (1, q_1.2)) else (g_X7_opens_175 a1 a2 a3 q_1.2))) else (if q_1.1 = 5 then (if a5 = (0 : Int32) then (some (0, q_1.2)) else (if a4 = (0 : Int32) then ((f_X7_isLate a1 q_1.2).bind (fun q_3 => if q_3.1 = (0 : Int32) then (some (0, q_3.2)) else (some (1, q_3.2)))) else (some (1, q_1.2)))) else (some (a5 &&& 1, q_1.2)))))))
def pk_X7_opens_61 (k : Int32 → Int32 → Int32 → Int32 → Int32 → HP → Option (Int32 × HP)) : List AV → List AV → HP → Option (Int32 × HP) := fun L st h => match L, st with
  | [.inr (.inr (.inl (7, 0))), .inl a1, .inl a2, .inl a3, .inl a4, .inl _, .inr (.inr (.inr ()))], [.inl a5] => k a1 a2 a3 a4 a5 h
  | _, _ => none
theorem pk_X7_opens_61_ok {Wp : List AV → List AV → HP → Prop} {r : (Int32 × HP)} {k : Int32 → Int32 → Int32 → Int32 → Int32 → HP → Option (Int32 × HP)} (hk : ∀ (a1 : Int32) (a2 : Int32) (a3 : Int32) (a4 : Int32) (a5 : Int32) (w1 : Int32) (h : HP), k a1 a2 a3 a4 a5 h = some r → Wp [.inr (.inr (.inl (7, 0))), .inl a1, .inl a2, .inl a3, .inl a4, .inl w1, .inr (.inr (.inr ()))] [.inl a5] h) : ∀ L st h, pk_X7_opens_61 k L st h = some r → Wp L st h := by
  intro L st h q
  unfold pk_X7_opens_61 at q
  split at q
  · exact hk _ _ _ _ _ _ _ q
  · cases q
noncomputable def g_X7_opens_50 (a1 : Int32) (a2 : Int32) (a3 : Int32) (a4 : Int32) (h : HP) : Option (Int32 × HP) := if (99 : Int32) ≤ a3 then (g_X7_opens_61 a1 a2 a3 a4 0 h) else (g_X7_opens_61 a1 a2 a3 a4 1 h)
def pk_X7_opens_50 (k : Int32 → Int32 → Int32 → Int32 → HP → Option (Int32 × HP)) : List AV → List AV → HP → Option (Int32 × HP) := fun L st h => match L, st with
  | [.inr (.inr (.inl (7, 0))), .inl a1, .inl a2, .inl a3, .inl a4, .inl _, .inr (.inr (.inr ()))], [] => k a1 a2 a3 a4 h
  | _, _ => none
theorem pk_X7_opens_50_ok {Wp : List AV → List AV → HP → Prop} {r : (Int32 × HP)} {k : Int32 → Int32 → Int32 → Int32 → HP → Option (Int32 × HP)} (hk : ∀ (a1 : Int32) (a2 : Int32) (a3 : Int32) (a4 : Int32) (w1 : Int32) (h : HP), k a1 a2 a3 a4 h = some r → Wp [.inr (.inr (.inl (7, 0))), .inl a1, .inl a2, .inl a3, .inl a4, .inl w1, .inr (.inr (.inr ()))] [] h) : ∀ L st h, pk_X7_opens_50 k L st h = some r → Wp L st h := by
  intro L st h q
  unfold pk_X7_opens_50 at q
  split at q
  · exact hk _ _ _ _ _ _ q
  · cases q
noncomputable def g_X7_opens_38 (a1 : Int32) (a2 : Int32) (a3 : Int32) (a4 : Int32) (a5 : Int32) (h : HP) : Option (Int32 × HP) := if a4 = (0 : Int32) then (if a5 = (0 : Int32) then (g_X7_opens_61 a1 a2 a3 a4 0 h) else (g_X7_opens_50 a1 a2 a3 a4 h)) else (g_X7_opens_50 a1 a2 a3 a4 h)
def pk_X7_opens_38 (k : Int32 → Int32 → Int32 → Int32 → Int32 → HP → Option (Int32 × HP)) : List AV → List AV → HP → Option (Int32 × HP) := fun L st h => match L, st with
  | [.inr (.inr (.inl (7, 0))), .inl a1, .inl a2, .inl a3, .inl a4, .inr (.inr (.inr ())), .inr (.inr (.inr ()))], [.inl a5] => k a1 a2 a3 a4 a5 h
  | _, _ => none
theorem pk_X7_opens_38_ok {Wp : List AV → List AV → HP → Prop} {r : (Int32 × HP)} {k : Int32 → Int32 → Int32 → Int32 → Int32 → HP → Option (Int32 × HP)} (hk : ∀ (a1 : Int32) (a2 : Int32) (a3 : Int32) (a4 : Int32) (a5 : Int32) (h : HP), k a1 a2 a3 a4 a5 h = some r → Wp [.inr (.inr (.inl (7, 0))), .inl a1, .inl a2, .inl a3, .inl a4, .inr (.inr (.inr ())), .inr (.inr (.inr ()))] [.inl a5] h) : ∀ L st h, pk_X7_opens_38 k L st h = some r → Wp L st h := by
  intro L st h q
  unfold pk_X7_opens_38 at q
  split at q
  · exact hk _ _ _ _ _ _ q
  · cases q
noncomputable def g_X7_opens_22 (a1 : Int32) (a2 : Int32) (a3 : Int32) (a4 : Int32) (h : HP) : Option (Int32 × HP) := (f_X7_endOf a1 h).bind (fun q_1 => if a2 = q_1.1 then (g_X7_opens_38 a1 a2 a3 a4 1 q_1.2) else (g_X7_opens_38 a1 a2 a3 a4 0 q_1.2))
def pk_X7_opens_22 (k : Int32 → Int32 → Int32 → Int32 → HP → Option (Int32 × HP)) : List AV → List AV → HP → Option (Int32 × HP) := fun L st h => match L, st with
  | [.inr (.inr (.inl (7, 0))), .inl a1, .inl a2, .inl a3, .inr (.inr (.inr ())), .inr (.inr (.inr ())), .inr (.inr (.inr ()))], [.inl a4] => k a1 a2 a3 a4 h
  | _, _ => none
theorem pk_X7_opens_22_ok {Wp : List AV → List AV → HP → Prop} {r : (Int32 × HP)} {k : Int32 → Int32 → Int32 → Int32 → HP → Option (Int32 × HP)} (hk : ∀ (a1 : Int32) (a2 : Int32) (a3 : Int32) (a4 : Int32) (h : HP), k a1 a2 a3 a4 h = some r → Wp [.inr (.inr (.inl (7, 0))), .inl a1, .inl a2, .inl a3, .inr (.inr (.inr ())), .inr (.inr (.inr ())), .inr (.inr (.inr ()))] [.inl a4] h) : ∀ L st h, pk_X7_opens_22 k L st h = some r → Wp L st h := by
  intro L st h q
  unfold pk_X7_opens_22 at q
  split at q
  · exact hk _ _ _ _ _ q
  · cases q
noncomputable def f_X7_opens (a1 : Int32) (a2 : Int32) (h : HP) : Option (Int32 × HP) := (f_X7_its a1 3 h).bind (fun q_1 => (f_X7_its a1 1 q_1.2).bind (fun q_2 => if a2 = q_2.1 then (g_X7_opens_22 a1 a2 q_1.1 1 q_2.2) else (g_X7_opens_22 a1 a2 q_1.1 0 q_2.2)))
noncomputable def fl_X7_opens : List AV → HP → Option (Int32 × HP) := fun as h => match as with
  | [.inr (.inr (.inl (7, 0))), .inl a1, .inl a2] => f_X7_opens a1 a2 h
  | _ => none
noncomputable def F_X7_opens : AF := .inl fl_X7_opens
set_option maxRecDepth 20000 in
theorem w_X7_opens_175 {p : Program} {l : Launch} {e : Env} {R : Room} {s : State} {m : MethodId} {args : Array Value} {below : List Frame} {meth : Method} {c : Code} {cells slots : Nat} {G : AG} {Q : (Int32 × HP) → State → Prop} (CX : am_X p l e R s m args below meth c cells slots G 7 cX7_opens RX7 am_tb P_X7_opens am_rZ Q) {r : (Int32 × HP)} : ∀ (a1 : Int32) (a2 : Int32) (a3 : Int32) (w1 : Int32) (w2 : Int32) (w3 : Int32) (h : HP), g_X7_opens_175 a1 a2 a3 h = some r → am_W p l e R s m args below meth c cells slots G 7 (Q r) 175 [.inr (.inr (.inl (7, 0))), .inl a1, .inl a2, .inl a3, .inl w1, .inl w2, .inl w3] [] h := by
  intro a1 a2 a3 w1 w2 w3 h q
  exact am_run_ok CX ok_X7_opens (K := []) (am_K0 (Wp := am_W p l e R s m args below meth c cells slots G 7 (Q r))) 19 175 _ _ _ q
set_option maxRecDepth 20000 in
theorem w_X7_opens_61 {p : Program} {l : Launch} {e : Env} {R : Room} {s : State} {m : MethodId} {args : Array Value} {below : List Frame} {meth : Method} {c : Code} {cells slots : Nat} {G : AG} {Q : (Int32 × HP) → State → Prop} (CX : am_X p l e R s m args below meth c cells slots G 7 cX7_opens RX7 am_tb P_X7_opens am_rZ Q) {r : (Int32 × HP)} : ∀ (a1 : Int32) (a2 : Int32) (a3 : Int32) (a4 : Int32) (a5 : Int32) (w1 : Int32) (h : HP), g_X7_opens_61 a1 a2 a3 a4 a5 h = some r → am_W p l e R s m args below meth c cells slots G 7 (Q r) 61 [.inr (.inr (.inl (7, 0))), .inl a1, .inl a2, .inl a3, .inl a4, .inl w1, .inr (.inr (.inr ()))] [.inl a5] h := by
  intro a1 a2 a3 a4 a5 w1 h q
  exact am_run_ok CX ok_X7_opens (K := [(175, pk_X7_opens_175 (g_X7_opens_175))]) (am_K1 (Wp := am_W p l e R s m args below meth c cells slots G 7 (Q r)) (pk_X7_opens_175_ok (Wp := am_W p l e R s m args below meth c cells slots G 7 (Q r) 175) (w_X7_opens_175 CX)) am_K0) 23 61 _ _ _ q
set_option maxRecDepth 20000 in
theorem w_X7_opens_50 {p : Program} {l : Launch} {e : Env} {R : Room} {s : State} {m : MethodId} {args : Array Value} {below : List Frame} {meth : Method} {c : Code} {cells slots : Nat} {G : AG} {Q : (Int32 × HP) → State → Prop} (CX : am_X p l e R s m args below meth c cells slots G 7 cX7_opens RX7 am_tb P_X7_opens am_rZ Q) {r : (Int32 × HP)} : ∀ (a1 : Int32) (a2 : Int32) (a3 : Int32) (a4 : Int32) (w1 : Int32) (h : HP), g_X7_opens_50 a1 a2 a3 a4 h = some r → am_W p l e R s m args below meth c cells slots G 7 (Q r) 50 [.inr (.inr (.inl (7, 0))), .inl a1, .inl a2, .inl a3, .inl a4, .inl w1, .inr (.inr (.inr ()))] [] h := by
  intro a1 a2 a3 a4 w1 h q
  exact am_run_ok CX ok_X7_opens (K := [(61, pk_X7_opens_61 (g_X7_opens_61))]) (am_K1 (Wp := am_W p l e R s m args below meth c cells slots G 7 (Q r)) (pk_X7_opens_61_ok (Wp := am_W p l e R s m args below meth c cells slots G 7 (Q r) 61) (w_X7_opens_61 CX)) am_K0) 8 50 _ _ _ q
set_option maxRecDepth 20000 in
theorem w_X7_opens_38 {p : Program} {l : Launch} {e : Env} {R : Room} {s : State} {m : MethodId} {args : Array Value} {below : List Frame} {meth : Method} {c : Code} {cells slots : Nat} {G : AG} {Q : (Int32 × HP) → State → Prop} (CX : am_X p l e R s m args below meth c cells slots G 7 cX7_opens RX7 am_tb P_X7_opens am_rZ Q) {r : (Int32 × HP)} : ∀ (a1 : Int32) (a2 : Int32) (a3 : Int32) (a4 : Int32) (a5 : Int32) (h : HP), g_X7_opens_38 a1 a2 a3 a4 a5 h = some r → am_W p l e R s m args below meth c cells slots G 7 (Q r) 38 [.inr (.inr (.inl (7, 0))), .inl a1, .inl a2, .inl a3, .inl a4, .inr (.inr (.inr ())), .inr (.inr (.inr ()))] [.inl a5] h := by
  intro a1 a2 a3 a4 a5 h q
  exact am_run_ok CX ok_X7_opens (K := [(50, pk_X7_opens_50 (g_X7_opens_50)), (61, pk_X7_opens_61 (g_X7_opens_61))]) (am_K1 (Wp := am_W p l e R s m args below meth c cells slots G 7 (Q r)) (pk_X7_opens_50_ok (Wp := am_W p l e R s m args below meth c cells slots G 7 (Q r) 50) (w_X7_opens_50 CX)) (am_K1 (Wp := am_W p l e R s m args below meth c cells slots G 7 (Q r)) (pk_X7_opens_61_ok (Wp := am_W p l e R s m args below meth c cells slots G 7 (Q r) 61) (w_X7_opens_61 CX)) am_K0)) 9 38 _ _ _ q
set_option maxRecDepth 20000 in
theorem w_X7_opens_22 {p : Program} {l : Launch} {e : Env} {R : Room} {s : State} {m : MethodId} {args : Array Value} {below : List Frame} {meth : Method} {c : Code} {cells slots : Nat} {G : AG} {Q : (Int32 × HP) → State → Prop} (CX : am_X p l e R s m args below meth c cells slots G 7 cX7_opens RX7 am_tb P_X7_opens am_rZ Q) {r : (Int32 × HP)} : ∀ (a1 : Int32) (a2 : Int32) (a3 : Int32) (a4 : Int32) (h : HP), g_X7_opens_22 a1 a2 a3 a4 h = some r → am_W p l e R s m args below meth c cells slots G 7 (Q r) 22 [.inr (.inr (.inl (7, 0))), .inl a1, .inl a2, .inl a3, .inr (.inr (.inr ())), .inr (.inr (.inr ())), .inr (.inr (.inr ()))] [.inl a4] h := by
  intro a1 a2 a3 a4 h q
  exact am_run_ok CX ok_X7_opens (K := [(38, pk_X7_opens_38 (g_X7_opens_38))]) (am_K1 (Wp := am_W p l e R s m args below meth c cells slots G 7 (Q r)) (pk_X7_opens_38_ok (Wp := am_W p l e R s m args below meth c cells slots G 7 (Q r) 38) (w_X7_opens_38 CX)) am_K0) 11 22 _ _ _ q
set_option maxRecDepth 20000 in
theorem b_X7_opens (l : Launch) (G : AG) : am_B l G 7 cX7_opens RX7 am_tb P_X7_opens am_rZ fl_X7_opens := by
  intro p e R s m args below meth c cells slots Q CX as h r q
  unfold fl_X7_opens at q
  split at q
  · exact am_run_ok CX ok_X7_opens (K := [(22, pk_X7_opens_22 (g_X7_opens_22))]) (am_K1 (Wp := am_W p l e R s m args below meth c cells slots G 7 (Q r)) (pk_X7_opens_22_ok (Wp := am_W p l e R s m args below meth c cells slots G 7 (Q r) 22) (w_X7_opens_22 CX)) am_K0) 16 0 _ _ _ q
  · cases q
theorem s_X7_opens : ∀ as h x, fl_X7_opens as h = some x → (∀ k, (some 7 : Option Nat) = some k → ∃ (j : Nat) (as' : List AV), as = .inr (.inr (.inl (k, j))) :: as') ∧ (am_l0 as).length ≤ 7 := by
  intro as h x q
  unfold fl_X7_opens at q
  split at q
  · exact ⟨fun k e => by cases e; exact ⟨_, _, rfl⟩, Nat.le_of_ble_eq_true rfl⟩
  · cases q
theorem M_X7_opens (l : Launch) (G : AG) : am_M l G yX7_opens cX7_opens 7 (some .boolean) 4 86 (some 7) F_X7_opens := am_M_of (f := fl_X7_opens) (toR := fun x => (some (.inl x.1), x.2)) (P := P_X7_opens) (Rr := am_rZ) (own := RX7) (by decide) rfl (fun _ _ => rfl) s_X7_opens am_wrI am_rkZ pf_RX7 pk_RX7 ps_RX7 (List.forall_mem_cons.mpr ⟨cv_RX7_46 l G (by decide) (by decide), (List.forall_mem_cons.mpr ⟨cv_RX7_50 l G (by decide) (by decide), (List.forall_mem_cons.mpr ⟨cv_RX7_58 l G (by decide) (by decide), (fun _ q => by cases q)⟩)⟩)⟩) (fun _ q => by cases q) (fun _ q => by cases q) (b_X7_opens l G)
def C_X7_leadsTo : List AC := [(0, .aload_n 0, 1, []), (1, .iload_n 1, 2, []), (2, .invokevirtual 58, 5, []), (5, .istore_n 3, 6, []), (6, .iload_n 2, 7, []), (7, .iload_n 3, 8, []), (8, .if_icmp .ne 12, 11, [20]), (11, .aload_n 0, 12, []), (12, .iload_n 1, 13, []), (13, .iconst 1, 14, []), (14, .invokevirtual 46, 17, []), (17, .goto 4, 20, [21]), (20, .iload_n 3, 21, []), (21, .ireturn, 22, [])]
theorem ok_X7_leadsTo : ∀ x ∈ C_X7_leadsTo, am_ok cX7_leadsTo 4 x = true := by decide +kernel
noncomputable def P_X7_leadsTo : AP := (PF_RX7, PK_RX7, PS_RX7, [(46, 3, F_X7_its), (58, 2, F_X7_endOf)], [], [])
noncomputable def f_X7_leadsTo (a1 : Int32) (a2 : Int32) (h : HP) : Option (Int32 × HP) := (f_X7_endOf a1 h).bind (fun q_1 => if a2 = q_1.1 then ((f_X7_its a1 1 q_1.2).bind (fun q_2 => some (q_2.1, q_2.2))) else (some (q_1.1, q_1.2)))
noncomputable def fl_X7_leadsTo : List AV → HP → Option (Int32 × HP) := fun as h => match as with
  | [.inr (.inr (.inl (7, 0))), .inl a1, .inl a2] => f_X7_leadsTo a1 a2 h
  | _ => none
noncomputable def F_X7_leadsTo : AF := .inl fl_X7_leadsTo
set_option maxRecDepth 20000 in
theorem b_X7_leadsTo (l : Launch) (G : AG) : am_B l G 4 cX7_leadsTo RX7 am_tb P_X7_leadsTo am_rI fl_X7_leadsTo := by
  intro p e R s m args below meth c cells slots Q CX as h r q
  unfold fl_X7_leadsTo at q
  split at q
  · exact am_run_ok CX ok_X7_leadsTo (K := []) (am_K0 (Wp := am_W p l e R s m args below meth c cells slots G 4 (Q r))) 16 0 _ _ _ q
  · cases q
theorem s_X7_leadsTo : ∀ as h x, fl_X7_leadsTo as h = some x → (∀ k, (some 7 : Option Nat) = some k → ∃ (j : Nat) (as' : List AV), as = .inr (.inr (.inl (k, j))) :: as') ∧ (am_l0 as).length ≤ 4 := by
  intro as h x q
  unfold fl_X7_leadsTo at q
  split at q
  · exact ⟨fun k e => by cases e; exact ⟨_, _, rfl⟩, Nat.le_of_ble_eq_true rfl⟩
  · cases q
theorem M_X7_leadsTo (l : Launch) (G : AG) : am_M l G yX7_leadsTo cX7_leadsTo 4 (some .int) 4 86 (some 7) F_X7_leadsTo := am_M_of (f := fl_X7_leadsTo) (toR := fun x => (some (.inl x.1), x.2)) (P := P_X7_leadsTo) (Rr := am_rI) (own := RX7) (by decide) rfl (fun _ _ => rfl) s_X7_leadsTo am_wrI am_rkI pf_RX7 pk_RX7 ps_RX7 (List.forall_mem_cons.mpr ⟨cv_RX7_46 l G (by decide) (by decide), (List.forall_mem_cons.mpr ⟨cv_RX7_58 l G (by decide) (by decide), (fun _ q => by cases q)⟩)⟩) (fun _ q => by cases q) (fun _ q => by cases q) (b_X7_leadsTo l G)
def C_X7_wears : List AC := [(0, .aload_n 0, 1, []), (1, .iload_n 1, 2, []), (2, .iconst 0, 3, []), (3, .invokevirtual 46, 6, []), (6, .tableswitch 51 2 5 #[30, 32, 34, 32], 36, [57, 36, 38, 40, 38]), (36, .iconst 2, 37, []), (37, .ireturn, 38, []), (38, .iconst 3, 39, []), (39, .ireturn, 40, []), (40, .aload_n 0, 41, []), (41, .getfield 7, 44, []), (44, .iconst 0, 45, []), (45, .iaload, 46, []), (46, .iconst 3, 47, []), (47, .irem, 48, []), (48, .ifCond .ne 7, 51, [55]), (51, .iconst 0, 52, []), (52, .goto 4, 55, [56]), (55, .iconst 1, 56, []), (56, .ireturn, 57, []), (57, .iconst 1, 58, []), (58, .ireturn, 59, [])]
theorem ok_X7_wears : ∀ x ∈ C_X7_wears, am_ok cX7_wears 2 x = true := by decide +kernel
noncomputable def P_X7_wears : AP := (PF_RX7, PK_RX7, PS_RX7, [(46, 3, F_X7_its)], [], [])
noncomputable def f_X7_wears (a1 : Int32) (h : HP) : Option (Int32 × HP) := (f_X7_its a1 0 h).bind (fun q_1 => if q_1.1 = 2 then (some (2, q_1.2)) else (if q_1.1 = 3 then (some (3, q_1.2)) else (if q_1.1 = 4 then ((am_ix (0 : Int32) 64).bind (fun k_2 => if (h_rI q_1.2 13 0 k_2) - (h_rI q_1.2 13 0 k_2) / 3 * 3 = (0 : Int32) then (some (0, q_1.2)) else (some (1, q_1.2)))) else (if q_1.1 = 5 then (some (3, q_1.2)) else (some (1, q_1.2))))))
noncomputable def fl_X7_wears : List AV → HP → Option (Int32 × HP) := fun as h => match as with
  | [.inr (.inr (.inl (7, 0))), .inl a1] => f_X7_wears a1 h
  | _ => none
noncomputable def F_X7_wears : AF := .inl fl_X7_wears
set_option maxRecDepth 20000 in
theorem b_X7_wears (l : Launch) (G : AG) : am_B l G 2 cX7_wears RX7 am_tb P_X7_wears am_rI fl_X7_wears := by
  intro p e R s m args below meth c cells slots Q CX as h r q
  unfold fl_X7_wears at q
  split at q
  · exact am_run_ok CX ok_X7_wears (K := []) (am_K0 (Wp := am_W p l e R s m args below meth c cells slots G 2 (Q r))) 18 0 _ _ _ q
  · cases q
theorem s_X7_wears : ∀ as h x, fl_X7_wears as h = some x → (∀ k, (some 7 : Option Nat) = some k → ∃ (j : Nat) (as' : List AV), as = .inr (.inr (.inl (k, j))) :: as') ∧ (am_l0 as).length ≤ 2 := by
  intro as h x q
  unfold fl_X7_wears at q
  split at q
  · exact ⟨fun k e => by cases e; exact ⟨_, _, rfl⟩, Nat.le_of_ble_eq_true rfl⟩
  · cases q
theorem M_X7_wears (l : Launch) (G : AG) : am_M l G yX7_wears cX7_wears 2 (some .int) 1 22 (some 7) F_X7_wears := am_M_of (f := fl_X7_wears) (toR := fun x => (some (.inl x.1), x.2)) (P := P_X7_wears) (Rr := am_rI) (own := RX7) (by decide) rfl (fun _ _ => rfl) s_X7_wears am_wrI am_rkI pf_RX7 pk_RX7 ps_RX7 (List.forall_mem_cons.mpr ⟨cv_RX7_46 l G (by decide) (by decide), (fun _ q => by cases q)⟩) (fun _ q => by cases q) (fun _ q => by cases q) (b_X7_wears l G)
theorem cv_RX7_61 (l : Launch) (G : AG) {fr lo : Nat} (h1 : 1 + 1 ≤ fr) (h2 : 8 + (2 + 11) + 22 ≤ lo) : am_cvOK l G RX7 fr lo (61, 2, F_X7_wears) := ⟨yX7_wears, cX7_wears, 2, (some .int), 1, 22, 7, RX7, M_X7_wears l G, ⟨(am_tb_mem (wd_18 _ (List.mem_of_getElem? (i := 14) rfl))), (am_tb_mem (wd_18 _ (List.mem_of_getElem? (i := 15) rfl))), (am_tb_mem (wd_0 _ (List.mem_of_getElem? (i := 20) rfl))), (am_tb_mem (wd_1 _ (List.mem_of_getElem? (i := 26) rfl))), (am_tb_mem (wd_18 _ (List.mem_of_getElem? (i := 16) rfl)))⟩, ⟨rfl, by decide, by decide, by decide +kernel⟩, Or.inl ⟨by decide, rfl⟩, h1, h2⟩
theorem cv_RX7_68 (l : Launch) (G : AG) {fr lo : Nat} (h1 : 0 + 1 ≤ fr) (h2 : 8 + (4 + 11) + 0 ≤ lo) : am_cvOK l G RX7 fr lo (68, 4, F_X7_puts) := ⟨yX7_puts, cX7_puts, 4, none, 0, 0, 7, RX7, M_X7_puts l G, ⟨(am_tb_mem (wd_17 _ (List.mem_of_getElem? (i := 32) rfl))), (am_tb_mem (wd_17 _ (List.mem_of_getElem? (i := 33) rfl))), (am_tb_mem (wd_0 _ (List.mem_of_getElem? (i := 14) rfl))), (am_tb_mem (wd_1 _ (List.mem_of_getElem? (i := 26) rfl))), (am_tb_mem (wd_17 _ (List.mem_of_getElem? (i := 34) rfl)))⟩, ⟨rfl, by decide, by decide, by decide +kernel⟩, Or.inl ⟨by decide, rfl⟩, h1, h2⟩
theorem cs_RX7_64 (l : Launch) (G : AG) {fr lo : Nat} (h1 : 0 + 1 ≤ fr) (h2 : 8 + (3 + 11) + 0 ≤ lo) : am_csOK l G RX7 fr lo (64, 3, F_X7_held) := Or.inl ⟨yX7_held, cX7_held, 3, (some .int), 0, 0, M_X7_held l G, ⟨(am_tb_mem (wd_20 _ (List.mem_of_getElem? (i := 27) rfl))), (am_tb_mem (wd_20 _ (List.mem_of_getElem? (i := 28) rfl))), (am_tb_mem (wd_1 _ (List.mem_of_getElem? (i := 26) rfl))), (am_tb_mem (wd_20 _ (List.mem_of_getElem? (i := 29) rfl)))⟩, ⟨by decide, by decide, by decide +kernel⟩, h1, h2⟩
def C_X7_wearsBy : List AC := [(0, .aload_n 0, 1, []), (1, .iload_n 1, 2, []), (2, .iconst 3, 3, []), (3, .aload_n 0, 4, []), (4, .iload_n 1, 5, []), (5, .iconst 3, 6, []), (6, .invokevirtual 46, 9, []), (9, .aload_n 0, 10, []), (10, .iload_n 1, 11, []), (11, .invokevirtual 61, 14, []), (14, .iadd, 15, []), (15, .iconst 0, 16, []), (16, .bipush 99, 18, []), (18, .invokestatic 64, 21, []), (21, .invokevirtual 68, 24, []), (24, .return_, 25, [])]
theorem ok_X7_wearsBy : ∀ x ∈ C_X7_wearsBy, am_ok cX7_wearsBy 2 x = true := by decide +kernel
noncomputable def P_X7_wearsBy : AP := (PF_RX7, PK_RX7, PS_RX7, [(46, 3, F_X7_its), (61, 2, F_X7_wears), (68, 4, F_X7_puts)], [(64, 3, F_X7_held)], [])
noncomputable def f_X7_wearsBy (a1 : Int32) (h : HP) : Option HP := (f_X7_its a1 3 h).bind (fun q_1 => (f_X7_wears a1 q_1.2).bind (fun q_2 => (f_X7_held (q_1.1 + q_2.1) 0 99 q_2.2).bind (fun q_3 => (f_X7_puts a1 3 q_3.1 q_3.2).bind (fun q_4 => some q_4))))
noncomputable def fl_X7_wearsBy : List AV → HP → Option HP := fun as h => match as with
  | [.inr (.inr (.inl (7, 0))), .inl a1] => f_X7_wearsBy a1 h
  | _ => none
noncomputable def F_X7_wearsBy : AF := .inr (.inl fl_X7_wearsBy)
set_option maxRecDepth 20000 in
theorem b_X7_wearsBy (l : Launch) (G : AG) : am_B l G 2 cX7_wearsBy RX7 am_tb P_X7_wearsBy am_rV fl_X7_wearsBy := by
  intro p e R s m args below meth c cells slots Q CX as h r q
  unfold fl_X7_wearsBy at q
  split at q
  · exact am_run_ok CX ok_X7_wearsBy (K := []) (am_K0 (Wp := am_W p l e R s m args below meth c cells slots G 2 (Q r))) 19 0 _ _ _ q
  · cases q
theorem s_X7_wearsBy : ∀ as h x, fl_X7_wearsBy as h = some x → (∀ k, (some 7 : Option Nat) = some k → ∃ (j : Nat) (as' : List AV), as = .inr (.inr (.inl (k, j))) :: as') ∧ (am_l0 as).length ≤ 2 := by
  intro as h x q
  unfold fl_X7_wearsBy at q
  split at q
  · exact ⟨fun k e => by cases e; exact ⟨_, _, rfl⟩, Nat.le_of_ble_eq_true rfl⟩
  · cases q
theorem M_X7_wearsBy (l : Launch) (G : AG) : am_M l G yX7_wearsBy cX7_wearsBy 2 none 2 43 (some 7) F_X7_wearsBy := am_M_of (f := fl_X7_wearsBy) (toR := fun x => (none, x)) (P := P_X7_wearsBy) (Rr := am_rV) (own := RX7) (by decide) rfl (fun _ _ => rfl) s_X7_wearsBy am_wrV am_rkV pf_RX7 pk_RX7 ps_RX7 (List.forall_mem_cons.mpr ⟨cv_RX7_46 l G (by decide) (by decide), (List.forall_mem_cons.mpr ⟨cv_RX7_61 l G (by decide) (by decide), (List.forall_mem_cons.mpr ⟨cv_RX7_68 l G (by decide) (by decide), (fun _ q => by cases q)⟩)⟩)⟩) (List.forall_mem_cons.mpr ⟨cs_RX7_64 l G (by decide) (by decide), (fun _ q => by cases q)⟩) (fun _ q => by cases q) (b_X7_wearsBy l G)
def C_X7_arePair : List AC := [(0, .aload_n 0, 1, []), (1, .iload_n 1, 2, []), (2, .iconst 1, 3, []), (3, .invokevirtual 46, 6, []), (6, .istore_n 3, 7, []), (7, .aload_n 0, 8, []), (8, .iload_n 1, 9, []), (9, .iconst 2, 10, []), (10, .invokevirtual 46, 13, []), (13, .istore 4, 15, []), (15, .aload_n 0, 16, []), (16, .iload_n 2, 17, []), (17, .iconst 1, 18, []), (18, .invokevirtual 46, 21, []), (21, .istore 5, 23, []), (23, .aload_n 0, 24, []), (24, .iload_n 2, 25, []), (25, .iconst 2, 26, []), (26, .invokevirtual 46, 29, []), (29, .istore 6, 31, []), (31, .iload_n 3, 32, []), (32, .iload 5, 34, []), (34, .if_icmp .ne 10, 37, [44]), (37, .iload 4, 39, []), (39, .iload 6, 41, []), (41, .if_icmp .eq 16, 44, [57]), (44, .iload_n 3, 45, []), (45, .iload 6, 47, []), (47, .if_icmp .ne 14, 50, [61]), (50, .iload 4, 52, []), (52, .iload 5, 54, []), (54, .if_icmp .ne 7, 57, [61]), (57, .iconst 1, 58, []), (58, .goto 4, 61, [62]), (61, .iconst 0, 62, []), (62, .ireturn, 63, [])]
theorem ok_X7_arePair : ∀ x ∈ C_X7_arePair, am_ok cX7_arePair 7 x = true := by decide +kernel
noncomputable def P_X7_arePair : AP := (PF_RX7, PK_RX7, PS_RX7, [(46, 3, F_X7_its)], [], [])
noncomputable def g_X7_arePair_44 (a1 : Int32) (a2 : Int32) (a3 : Int32) (a4 : Int32) (h : HP) : Option (Int32 × HP) := if a1 = a4 then (if a2 = a3 then (some (1, h)) else (some (0, h))) else (some (0, h))
def pk_X7_arePair_44 (k : Int32 → Int32 → Int32 → Int32 → HP → Option (Int32 × HP)) : List AV → List AV → HP → Option (Int32 × HP) := fun L st h => match L, st with
  | [.inr (.inr (.inl (7, 0))), .inl _, .inl _, .inl a1, .inl a2, .inl a3, .inl a4], [] => k a1 a2 a3 a4 h
  | _, _ => none
theorem pk_X7_arePair_44_ok {Wp : List AV → List AV → HP → Prop} {r : (Int32 × HP)} {k : Int32 → Int32 → Int32 → Int32 → HP → Option (Int32 × HP)} (hk : ∀ (a1 : Int32) (a2 : Int32) (a3 : Int32) (a4 : Int32) (w1 : Int32) (w2 : Int32) (h : HP), k a1 a2 a3 a4 h = some r → Wp [.inr (.inr (.inl (7, 0))), .inl w1, .inl w2, .inl a1, .inl a2, .inl a3, .inl a4] [] h) : ∀ L st h, pk_X7_arePair_44 k L st h = some r → Wp L st h := by
  intro L st h q
  unfold pk_X7_arePair_44 at q
  split at q
  · exact hk _ _ _ _ _ _ _ q
  · cases q
noncomputable def f_X7_arePair (a1 : Int32) (a2 : Int32) (h : HP) : Option (Int32 × HP) := (f_X7_its a1 1 h).bind (fun q_1 => (f_X7_its a1 2 q_1.2).bind (fun q_2 => (f_X7_its a2 1 q_2.2).bind (fun q_3 => (f_X7_its a2 2 q_3.2).bind (fun q_4 => if q_1.1 = q_3.1 then (if q_2.1 = q_4.1 then (some (1, q_4.2)) else (g_X7_arePair_44 q_1.1 q_2.1 q_3.1 q_4.1 q_4.2)) else (g_X7_arePair_44 q_1.1 q_2.1 q_3.1 q_4.1 q_4.2)))))
noncomputable def fl_X7_arePair : List AV → HP → Option (Int32 × HP) := fun as h => match as with
  | [.inr (.inr (.inl (7, 0))), .inl a1, .inl a2] => f_X7_arePair a1 a2 h
  | _ => none
noncomputable def F_X7_arePair : AF := .inl fl_X7_arePair
set_option maxRecDepth 20000 in
theorem w_X7_arePair_44 {p : Program} {l : Launch} {e : Env} {R : Room} {s : State} {m : MethodId} {args : Array Value} {below : List Frame} {meth : Method} {c : Code} {cells slots : Nat} {G : AG} {Q : (Int32 × HP) → State → Prop} (CX : am_X p l e R s m args below meth c cells slots G 7 cX7_arePair RX7 am_tb P_X7_arePair am_rZ Q) {r : (Int32 × HP)} : ∀ (a1 : Int32) (a2 : Int32) (a3 : Int32) (a4 : Int32) (w1 : Int32) (w2 : Int32) (h : HP), g_X7_arePair_44 a1 a2 a3 a4 h = some r → am_W p l e R s m args below meth c cells slots G 7 (Q r) 44 [.inr (.inr (.inl (7, 0))), .inl w1, .inl w2, .inl a1, .inl a2, .inl a3, .inl a4] [] h := by
  intro a1 a2 a3 a4 w1 w2 h q
  exact am_run_ok CX ok_X7_arePair (K := []) (am_K0 (Wp := am_W p l e R s m args below meth c cells slots G 7 (Q r))) 12 44 _ _ _ q
set_option maxRecDepth 20000 in
theorem b_X7_arePair (l : Launch) (G : AG) : am_B l G 7 cX7_arePair RX7 am_tb P_X7_arePair am_rZ fl_X7_arePair := by
  intro p e R s m args below meth c cells slots Q CX as h r q
  unfold fl_X7_arePair at q
  split at q
  · exact am_run_ok CX ok_X7_arePair (K := [(44, pk_X7_arePair_44 (g_X7_arePair_44))]) (am_K1 (Wp := am_W p l e R s m args below meth c cells slots G 7 (Q r)) (pk_X7_arePair_44_ok (Wp := am_W p l e R s m args below meth c cells slots G 7 (Q r) 44) (w_X7_arePair_44 CX)) am_K0) 32 0 _ _ _ q
  · cases q
theorem s_X7_arePair : ∀ as h x, fl_X7_arePair as h = some x → (∀ k, (some 7 : Option Nat) = some k → ∃ (j : Nat) (as' : List AV), as = .inr (.inr (.inl (k, j))) :: as') ∧ (am_l0 as).length ≤ 7 := by
  intro as h x q
  unfold fl_X7_arePair at q
  split at q
  · exact ⟨fun k e => by cases e; exact ⟨_, _, rfl⟩, Nat.le_of_ble_eq_true rfl⟩
  · cases q
theorem M_X7_arePair (l : Launch) (G : AG) : am_M l G yX7_arePair cX7_arePair 7 (some .boolean) 1 22 (some 7) F_X7_arePair := am_M_of (f := fl_X7_arePair) (toR := fun x => (some (.inl x.1), x.2)) (P := P_X7_arePair) (Rr := am_rZ) (own := RX7) (by decide) rfl (fun _ _ => rfl) s_X7_arePair am_wrI am_rkZ pf_RX7 pk_RX7 ps_RX7 (List.forall_mem_cons.mpr ⟨cv_RX7_46 l G (by decide) (by decide), (fun _ q => by cases q)⟩) (fun _ q => by cases q) (fun _ q => by cases q) (b_X7_arePair l G)
def C_X7_addHandle : List AC := [(0, .aload_n 0, 1, []), (1, .getfield 7, 4, []), (4, .iconst 2, 5, []), (5, .iaload, 6, []), (6, .istore 5, 8, []), (8, .aload_n 0, 9, []), (9, .iload 5, 11, []), (11, .iconst 0, 12, []), (12, .iload_n 1, 13, []), (13, .invokevirtual 68, 16, []), (16, .aload_n 0, 17, []), (17, .iload 5, 19, []), (19, .iconst 1, 20, []), (20, .iload_n 2, 21, []), (21, .invokevirtual 68, 24, []), (24, .aload_n 0, 25, []), (25, .iload 5, 27, []), (27, .iconst 2, 28, []), (28, .iload_n 3, 29, []), (29, .invokevirtual 68, 32, []), (32, .aload_n 0, 33, []), (33, .iload 5, 35, []), (35, .iconst 3, 36, []), (36, .iload 4, 38, []), (38, .invokevirtual 68, 41, []), (41, .aload_n 0, 42, []), (42, .iload 5, 44, []), (44, .iconst 4, 45, []), (45, .iconst (-1), 46, []), (46, .invokevirtual 68, 49, []), (49, .aload_n 0, 50, []), (50, .iload 5, 52, []), (52, .iconst 5, 53, []), (53, .iconst 0, 54, []), (54, .invokevirtual 68, 57, []), (57, .aload_n 0, 58, []), (58, .getfield 7, 61, []), (61, .iconst 2, 62, []), (62, .dup2, 63, []), (63, .iaload, 64, []), (64, .iconst 1, 65, []), (65, .iadd, 66, []), (66, .iastore, 67, []), (67, .return_, 68, [])]
theorem ok_X7_addHandle : ∀ x ∈ C_X7_addHandle, am_ok cX7_addHandle 6 x = true := by decide +kernel
noncomputable def P_X7_addHandle : AP := (PF_RX7, PK_RX7, PS_RX7, [(68, 4, F_X7_puts)], [], [])
noncomputable def f_X7_addHandle (a1 : Int32) (a2 : Int32) (a3 : Int32) (a4 : Int32) (h : HP) : Option HP := (am_ix (2 : Int32) 64).bind (fun k_1 => (f_X7_puts (h_rI h 13 0 k_1) 0 a1 h).bind (fun q_2 => (f_X7_puts (h_rI h 13 0 k_1) 1 a2 q_2).bind (fun q_3 => (f_X7_puts (h_rI h 13 0 k_1) 2 a3 q_3).bind (fun q_4 => (f_X7_puts (h_rI h 13 0 k_1) 3 a4 q_4).bind (fun q_5 => (f_X7_puts (h_rI h 13 0 k_1) 4 ((-1)) q_5).bind (fun q_6 => (f_X7_puts (h_rI h 13 0 k_1) 5 0 q_6).bind (fun q_7 => (am_ix (2 : Int32) 64).bind (fun k_8 => (am_ix (2 : Int32) 64).bind (fun k_9 => some (h_wI q_7 13 0 k_9 ((h_rI q_7 13 0 k_8) + 1)))))))))))
noncomputable def fl_X7_addHandle : List AV → HP → Option HP := fun as h => match as with
  | [.inr (.inr (.inl (7, 0))), .inl a1, .inl a2, .inl a3, .inl a4] => f_X7_addHandle a1 a2 a3 a4 h
  | _ => none
noncomputable def F_X7_addHandle : AF := .inr (.inl fl_X7_addHandle)
set_option maxRecDepth 20000 in
theorem b_X7_addHandle (l : Launch) (G : AG) : am_B l G 6 cX7_addHandle RX7 am_tb P_X7_addHandle am_rV fl_X7_addHandle := by
  intro p e R s m args below meth c cells slots Q CX as h r q
  unfold fl_X7_addHandle at q
  split at q
  · exact am_run_ok CX ok_X7_addHandle (K := []) (am_K0 (Wp := am_W p l e R s m args below meth c cells slots G 6 (Q r))) 47 0 _ _ _ q
  · cases q
theorem s_X7_addHandle : ∀ as h x, fl_X7_addHandle as h = some x → (∀ k, (some 7 : Option Nat) = some k → ∃ (j : Nat) (as' : List AV), as = .inr (.inr (.inl (k, j))) :: as') ∧ (am_l0 as).length ≤ 6 := by
  intro as h x q
  unfold fl_X7_addHandle at q
  split at q
  · exact ⟨fun k e => by cases e; exact ⟨_, _, rfl⟩, Nat.le_of_ble_eq_true rfl⟩
  · cases q
theorem M_X7_addHandle (l : Launch) (G : AG) : am_M l G yX7_addHandle cX7_addHandle 6 none 1 23 (some 7) F_X7_addHandle := am_M_of (f := fl_X7_addHandle) (toR := fun x => (none, x)) (P := P_X7_addHandle) (Rr := am_rV) (own := RX7) (by decide) rfl (fun _ _ => rfl) s_X7_addHandle am_wrV am_rkV pf_RX7 pk_RX7 ps_RX7 (List.forall_mem_cons.mpr ⟨cv_RX7_68 l G (by decide) (by decide), (fun _ q => by cases q)⟩) (fun _ q => by cases q) (fun _ q => by cases q) (b_X7_addHandle l G)
def C_X7_addMember : List AC := [(0, .aload_n 0, 1, []), (1, .getfield 7, 4, []), (4, .iconst 3, 5, []), (5, .iaload, 6, []), (6, .istore_n 2, 7, []), (7, .aload_n 0, 8, []), (8, .getfield 7, 11, []), (11, .bipush 52, 13, []), (13, .iconst 2, 14, []), (14, .iload_n 2, 15, []), (15, .imul, 16, []), (16, .iadd, 17, []), (17, .iload_n 1, 18, []), (18, .iastore, 19, []), (19, .aload_n 0, 20, []), (20, .getfield 7, 23, []), (23, .bipush 52, 25, []), (25, .iconst 2, 26, []), (26, .iload_n 2, 27, []), (27, .imul, 28, []), (28, .iadd, 29, []), (29, .iconst 1, 30, []), (30, .iadd, 31, []), (31, .iconst 0, 32, []), (32, .iastore, 33, []), (33, .aload_n 0, 34, []), (34, .getfield 7, 37, []), (37, .iconst 3, 38, []), (38, .dup2, 39, []), (39, .iaload, 40, []), (40, .iconst 1, 41, []), (41, .iadd, 42, []), (42, .iastore, 43, []), (43, .return_, 44, [])]
theorem ok_X7_addMember : ∀ x ∈ C_X7_addMember, am_ok cX7_addMember 3 x = true := by decide +kernel
noncomputable def P_X7_addMember : AP := (PF_RX7, PK_RX7, PS_RX7, [], [], [])
noncomputable def f_X7_addMember (a1 : Int32) (h : HP) : Option HP := (am_ix (3 : Int32) 64).bind (fun k_1 => (am_ix (52 + (2 * (h_rI h 13 0 k_1))) 64).bind (fun k_2 => (am_ix ((52 + (2 * (h_rI h 13 0 k_1))) + 1) 64).bind (fun k_3 => (am_ix (3 : Int32) 64).bind (fun k_4 => (am_ix (3 : Int32) 64).bind (fun k_5 => some (h_wI (h_wI (h_wI h 13 0 k_2 a1) 13 0 k_3 0) 13 0 k_5 ((h_rI (h_wI (h_wI h 13 0 k_2 a1) 13 0 k_3 0) 13 0 k_4) + 1)))))))
noncomputable def fl_X7_addMember : List AV → HP → Option HP := fun as h => match as with
  | [.inr (.inr (.inl (7, 0))), .inl a1] => f_X7_addMember a1 h
  | _ => none
noncomputable def F_X7_addMember : AF := .inr (.inl fl_X7_addMember)
set_option maxRecDepth 20000 in
theorem b_X7_addMember (l : Launch) (G : AG) : am_B l G 3 cX7_addMember RX7 am_tb P_X7_addMember am_rV fl_X7_addMember := by
  intro p e R s m args below meth c cells slots Q CX as h r q
  unfold fl_X7_addMember at q
  split at q
  · exact am_run_ok CX ok_X7_addMember (K := []) (am_K0 (Wp := am_W p l e R s m args below meth c cells slots G 3 (Q r))) 37 0 _ _ _ q
  · cases q
theorem s_X7_addMember : ∀ as h x, fl_X7_addMember as h = some x → (∀ k, (some 7 : Option Nat) = some k → ∃ (j : Nat) (as' : List AV), as = .inr (.inr (.inl (k, j))) :: as') ∧ (am_l0 as).length ≤ 3 := by
  intro as h x q
  unfold fl_X7_addMember at q
  split at q
  · exact ⟨fun k e => by cases e; exact ⟨_, _, rfl⟩, Nat.le_of_ble_eq_true rfl⟩
  · cases q
theorem M_X7_addMember (l : Launch) (G : AG) : am_M l G yX7_addMember cX7_addMember 3 none 0 0 (some 7) F_X7_addMember := am_M_of (f := fl_X7_addMember) (toR := fun x => (none, x)) (P := P_X7_addMember) (Rr := am_rV) (own := RX7) (by decide) rfl (fun _ _ => rfl) s_X7_addMember am_wrV am_rkV pf_RX7 pk_RX7 ps_RX7 (fun _ q => by cases q) (fun _ q => by cases q) (fun _ q => by cases q) (b_X7_addMember l G)
theorem cv_RX7_78 (l : Launch) (G : AG) {fr lo : Nat} (h1 : 0 + 1 ≤ fr) (h2 : 8 + (2 + 11) + 0 ≤ lo) : am_cvOK l G RX7 fr lo (78, 2, F_X7_finds) := ⟨yX7_finds, cX7_finds, 2, (some .int), 0, 0, 7, RX7, M_X7_finds l G, ⟨(am_tb_mem (wd_17 _ (List.mem_of_getElem? (i := 25) rfl))), (am_tb_mem (wd_17 _ (List.mem_of_getElem? (i := 26) rfl))), (am_tb_mem (wd_0 _ (List.mem_of_getElem? (i := 12) rfl))), (am_tb_mem (wd_1 _ (List.mem_of_getElem? (i := 26) rfl))), (am_tb_mem (wd_17 _ (List.mem_of_getElem? (i := 27) rfl)))⟩, ⟨rfl, by decide, by decide, by decide +kernel⟩, Or.inl ⟨by decide, rfl⟩, h1, h2⟩
theorem cv_RX7_82 (l : Launch) (G : AG) {fr lo : Nat} (h1 : 1 + 1 ≤ fr) (h2 : 8 + (6 + 11) + 23 ≤ lo) : am_cvOK l G RX7 fr lo (82, 5, F_X7_addHandle) := ⟨yX7_addHandle, cX7_addHandle, 6, none, 1, 23, 7, RX7, M_X7_addHandle l G, ⟨(am_tb_mem (wd_17 _ (List.mem_of_getElem? (i := 29) rfl))), (am_tb_mem (wd_17 _ (List.mem_of_getElem? (i := 30) rfl))), (am_tb_mem (wd_0 _ (List.mem_of_getElem? (i := 13) rfl))), (am_tb_mem (wd_1 _ (List.mem_of_getElem? (i := 26) rfl))), (am_tb_mem (wd_17 _ (List.mem_of_getElem? (i := 31) rfl)))⟩, ⟨rfl, by decide, by decide, by decide +kernel⟩, Or.inl ⟨by decide, rfl⟩, h1, h2⟩
theorem cs_RX7_72 (l : Launch) (G : AG) {fr lo : Nat} (h1 : 1 + 1 ≤ fr) (h2 : 8 + (1 + 11) + 22 ≤ lo) : am_csOK l G RX7 fr lo (72, 1, F_X7_isKind) := Or.inl ⟨yX7_isKind, cX7_isKind, 1, (some .boolean), 1, 22, M_X7_isKind l G, ⟨(am_tb_mem (wd_17 _ (List.mem_of_getElem? (i := 15) rfl))), (am_tb_mem (wd_17 _ (List.mem_of_getElem? (i := 16) rfl))), (am_tb_mem (wd_1 _ (List.mem_of_getElem? (i := 26) rfl))), (am_tb_mem (wd_17 _ (List.mem_of_getElem? (i := 17) rfl)))⟩, ⟨by decide, by decide, by decide +kernel⟩, h1, h2⟩
theorem cs_RX7_75 (l : Launch) (G : AG) {fr lo : Nat} (h1 : 1 + 1 ≤ fr) (h2 : 8 + (1 + 11) + 22 ≤ lo) : am_csOK l G RX7 fr lo (75, 1, F_X7_isRoom) := Or.inl ⟨yX7_isRoom, cX7_isRoom, 1, (some .boolean), 1, 22, M_X7_isRoom l G, ⟨(am_tb_mem (wd_17 _ (List.mem_of_getElem? (i := 21) rfl))), (am_tb_mem (wd_17 _ (List.mem_of_getElem? (i := 22) rfl))), (am_tb_mem (wd_1 _ (List.mem_of_getElem? (i := 26) rfl))), (am_tb_mem (wd_17 _ (List.mem_of_getElem? (i := 23) rfl)))⟩, ⟨by decide, by decide, by decide +kernel⟩, h1, h2⟩
def C_X7_handle : List AC := [(0, .iload_n 1, 1, []), (1, .invokestatic 72, 4, []), (4, .ifCond .eq 17, 7, [21]), (7, .iload_n 2, 8, []), (8, .invokestatic 75, 11, []), (11, .ifCond .eq 10, 14, [21]), (14, .iload_n 3, 15, []), (15, .invokestatic 75, 18, []), (18, .ifCond .ne 10, 21, [28]), (21, .aload_n 0, 22, []), (22, .ldc 41, 24, []), (24, .invokevirtual 78, 27, []), (27, .ireturn, 28, []), (28, .aload_n 0, 29, []), (29, .getfield 7, 32, []), (32, .iconst 2, 33, []), (33, .iaload, 34, []), (34, .bipush 8, 36, []), (36, .if_icmp .ne 10, 39, [46]), (39, .aload_n 0, 40, []), (40, .ldc 81, 42, []), (42, .invokevirtual 78, 45, []), (45, .ireturn, 46, []), (46, .aload_n 0, 47, []), (47, .iload_n 1, 48, []), (48, .iload_n 2, 49, []), (49, .iload_n 3, 50, []), (50, .iconst 0, 51, []), (51, .invokevirtual 82, 54, []), (54, .aload_n 0, 55, []), (55, .getfield 7, 58, []), (58, .iconst 2, 59, []), (59, .iaload, 60, []), (60, .iconst 1, 61, []), (61, .isub, 62, []), (62, .ireturn, 63, [])]
theorem ok_X7_handle : ∀ x ∈ C_X7_handle, am_ok cX7_handle 4 x = true := by decide +kernel
noncomputable def P_X7_handle : AP := (PF_RX7, PK_RX7, PS_RX7, [(78, 2, F_X7_finds), (82, 5, F_X7_addHandle)], [(72, 1, F_X7_isKind), (75, 1, F_X7_isRoom)], [])
noncomputable def g_X7_handle_21  (h : HP) : Option (Int32 × HP) := (f_X7_finds ((-1000000001)) h).bind (fun q_1 => some (q_1.1, q_1.2))
def pk_X7_handle_21 (k : HP → Option (Int32 × HP)) : List AV → List AV → HP → Option (Int32 × HP) := fun L st h => match L, st with
  | [.inr (.inr (.inl (7, 0))), .inl _, .inl _, .inl _], [] => k h
  | _, _ => none
theorem pk_X7_handle_21_ok {Wp : List AV → List AV → HP → Prop} {r : (Int32 × HP)} {k : HP → Option (Int32 × HP)} (hk : ∀ (w1 : Int32) (w2 : Int32) (w3 : Int32) (h : HP), k h = some r → Wp [.inr (.inr (.inl (7, 0))), .inl w1, .inl w2, .inl w3] [] h) : ∀ L st h, pk_X7_handle_21 k L st h = some r → Wp L st h := by
  intro L st h q
  unfold pk_X7_handle_21 at q
  split at q
  · exact hk _ _ _ _ q
  · cases q
noncomputable def f_X7_handle (a1 : Int32) (a2 : Int32) (a3 : Int32) (h : HP) : Option (Int32 × HP) := (f_X7_isKind a1 h).bind (fun q_1 => if q_1.1 = (0 : Int32) then (g_X7_handle_21 q_1.2) else ((f_X7_isRoom a2 q_1.2).bind (fun q_2 => if q_2.1 = (0 : Int32) then (g_X7_handle_21 q_2.2) else ((f_X7_isRoom a3 q_2.2).bind (fun q_3 => if q_3.1 = (0 : Int32) then (g_X7_handle_21 q_3.2) else ((am_ix (2 : Int32) 64).bind (fun k_4 => if h_rI q_3.2 13 0 k_4 = (8 : Int32) then ((f_X7_finds ((-1000000002)) q_3.2).bind (fun q_7 => some (q_7.1, q_7.2))) else ((f_X7_addHandle a1 a2 a3 0 q_3.2).bind (fun q_5 => (am_ix (2 : Int32) 64).bind (fun k_6 => some ((h_rI q_5 13 0 k_6) - 1, q_5)))))))))))
noncomputable def fl_X7_handle : List AV → HP → Option (Int32 × HP) := fun as h => match as with
  | [.inr (.inr (.inl (7, 0))), .inl a1, .inl a2, .inl a3] => f_X7_handle a1 a2 a3 h
  | _ => none
noncomputable def F_X7_handle : AF := .inl fl_X7_handle
set_option maxRecDepth 20000 in
theorem w_X7_handle_21 {p : Program} {l : Launch} {e : Env} {R : Room} {s : State} {m : MethodId} {args : Array Value} {below : List Frame} {meth : Method} {c : Code} {cells slots : Nat} {G : AG} {Q : (Int32 × HP) → State → Prop} (CX : am_X p l e R s m args below meth c cells slots G 4 cX7_handle RX7 am_tb P_X7_handle am_rI Q) {r : (Int32 × HP)} : ∀ (w1 : Int32) (w2 : Int32) (w3 : Int32) (h : HP), g_X7_handle_21 h = some r → am_W p l e R s m args below meth c cells slots G 4 (Q r) 21 [.inr (.inr (.inl (7, 0))), .inl w1, .inl w2, .inl w3] [] h := by
  intro w1 w2 w3 h q
  exact am_run_ok CX ok_X7_handle (K := []) (am_K0 (Wp := am_W p l e R s m args below meth c cells slots G 4 (Q r))) 7 21 _ _ _ q
set_option maxRecDepth 20000 in
theorem b_X7_handle (l : Launch) (G : AG) : am_B l G 4 cX7_handle RX7 am_tb P_X7_handle am_rI fl_X7_handle := by
  intro p e R s m args below meth c cells slots Q CX as h r q
  unfold fl_X7_handle at q
  split at q
  · exact am_run_ok CX ok_X7_handle (K := [(21, pk_X7_handle_21 (g_X7_handle_21))]) (am_K1 (Wp := am_W p l e R s m args below meth c cells slots G 4 (Q r)) (pk_X7_handle_21_ok (Wp := am_W p l e R s m args below meth c cells slots G 4 (Q r) 21) (w_X7_handle_21 CX)) am_K0) 31 0 _ _ _ q
  · cases q
theorem s_X7_handle : ∀ as h x, fl_X7_handle as h = some x → (∀ k, (some 7 : Option Nat) = some k → ∃ (j : Nat) (as' : List AV), as = .inr (.inr (.inl (k, j))) :: as') ∧ (am_l0 as).length ≤ 4 := by
  intro as h x q
  unfold fl_X7_handle at q
  split at q
  · exact ⟨fun k e => by cases e; exact ⟨_, _, rfl⟩, Nat.le_of_ble_eq_true rfl⟩
  · cases q
theorem M_X7_handle (l : Launch) (G : AG) : am_M l G yX7_handle cX7_handle 4 (some .int) 2 48 (some 7) F_X7_handle := am_M_of (f := fl_X7_handle) (toR := fun x => (some (.inl x.1), x.2)) (P := P_X7_handle) (Rr := am_rI) (own := RX7) (by decide) rfl (fun _ _ => rfl) s_X7_handle am_wrI am_rkI pf_RX7 pk_RX7 ps_RX7 (List.forall_mem_cons.mpr ⟨cv_RX7_78 l G (by decide) (by decide), (List.forall_mem_cons.mpr ⟨cv_RX7_82 l G (by decide) (by decide), (fun _ q => by cases q)⟩)⟩) (List.forall_mem_cons.mpr ⟨cs_RX7_72 l G (by decide) (by decide), (List.forall_mem_cons.mpr ⟨cs_RX7_75 l G (by decide) (by decide), (fun _ q => by cases q)⟩)⟩) (fun _ q => by cases q) (b_X7_handle l G)
theorem cv_RX7_86 (l : Launch) (G : AG) {fr lo : Nat} (h1 : 1 + 1 ≤ fr) (h2 : 8 + (2 + 11) + 22 ≤ lo) : am_cvOK l G RX7 fr lo (86, 2, F_X7_isOne) := ⟨yX7_isOne, cX7_isOne, 2, (some .boolean), 1, 22, 7, RX7, M_X7_isOne l G, ⟨(am_tb_mem (wd_17 _ (List.mem_of_getElem? (i := 39) rfl))), (am_tb_mem (wd_18 _ (List.mem_of_getElem? (i := 0) rfl))), (am_tb_mem (wd_0 _ (List.mem_of_getElem? (i := 15) rfl))), (am_tb_mem (wd_1 _ (List.mem_of_getElem? (i := 26) rfl))), (am_tb_mem (wd_18 _ (List.mem_of_getElem? (i := 1) rfl)))⟩, ⟨rfl, by decide, by decide, by decide +kernel⟩, Or.inl ⟨by decide, rfl⟩, h1, h2⟩
def C_X7_of : List AC := [(0, .aload_n 0, 1, []), (1, .iload_n 1, 2, []), (2, .invokevirtual 86, 5, []), (5, .ifCond .eq 13, 8, [18]), (8, .iload_n 2, 9, []), (9, .iconst 0, 10, []), (10, .bipush 8, 12, []), (12, .invokestatic 42, 15, []), (15, .ifCond .ne 10, 18, [25]), (18, .aload_n 0, 19, []), (19, .ldc 41, 21, []), (21, .invokevirtual 78, 24, []), (24, .ireturn, 25, []), (25, .iload_n 2, 26, []), (26, .tableswitch 52 6 8 #[26, 40, 46], 52, [78, 52, 66, 72]), (52, .aload_n 0, 53, []), (53, .iload_n 1, 54, []), (54, .invokevirtual 50, 57, []), (57, .ifCond .eq 7, 60, [64]), (60, .iconst 1, 61, []), (61, .goto 4, 64, [65]), (64, .iconst 0, 65, []), (65, .ireturn, 66, []), (66, .aload_n 0, 67, []), (67, .iload_n 1, 68, []), (68, .invokevirtual 58, 71, []), (71, .ireturn, 72, []), (72, .aload_n 0, 73, []), (73, .iload_n 1, 74, []), (74, .invokevirtual 61, 77, []), (77, .ireturn, 78, []), (78, .aload_n 0, 79, []), (79, .iload_n 1, 80, []), (80, .iload_n 2, 81, []), (81, .invokevirtual 46, 84, []), (84, .ireturn, 85, [])]
theorem ok_X7_of : ∀ x ∈ C_X7_of, am_ok cX7_of 3 x = true := by decide +kernel
noncomputable def P_X7_of : AP := (PF_RX7, PK_RX7, PS_RX7, [(46, 3, F_X7_its), (50, 2, F_X7_isLate), (58, 2, F_X7_endOf), (61, 2, F_X7_wears), (78, 2, F_X7_finds), (86, 2, F_X7_isOne)], [(42, 3, F_X7_in)], [])
noncomputable def g_X7_of_18  (h : HP) : Option (Int32 × HP) := (f_X7_finds ((-1000000001)) h).bind (fun q_1 => some (q_1.1, q_1.2))
def pk_X7_of_18 (k : HP → Option (Int32 × HP)) : List AV → List AV → HP → Option (Int32 × HP) := fun L st h => match L, st with
  | [.inr (.inr (.inl (7, 0))), .inl _, .inl _], [] => k h
  | _, _ => none
theorem pk_X7_of_18_ok {Wp : List AV → List AV → HP → Prop} {r : (Int32 × HP)} {k : HP → Option (Int32 × HP)} (hk : ∀ (w1 : Int32) (w2 : Int32) (h : HP), k h = some r → Wp [.inr (.inr (.inl (7, 0))), .inl w1, .inl w2] [] h) : ∀ L st h, pk_X7_of_18 k L st h = some r → Wp L st h := by
  intro L st h q
  unfold pk_X7_of_18 at q
  split at q
  · exact hk _ _ _ q
  · cases q
noncomputable def f_X7_of (a1 : Int32) (a2 : Int32) (h : HP) : Option (Int32 × HP) := (f_X7_isOne a1 h).bind (fun q_1 => if q_1.1 = (0 : Int32) then (g_X7_of_18 q_1.2) else ((f_X7_in a2 0 8 q_1.2).bind (fun q_2 => if q_2.1 = (0 : Int32) then (g_X7_of_18 q_2.2) else (if a2 = 6 then ((f_X7_isLate a1 q_2.2).bind (fun q_3 => if q_3.1 = (0 : Int32) then (some (0, q_3.2)) else (some (1, q_3.2)))) else (if a2 = 7 then ((f_X7_endOf a1 q_2.2).bind (fun q_4 => some (q_4.1, q_4.2))) else (if a2 = 8 then ((f_X7_wears a1 q_2.2).bind (fun q_5 => some (q_5.1, q_5.2))) else ((f_X7_its a1 a2 q_2.2).bind (fun q_6 => some (q_6.1, q_6.2)))))))))
noncomputable def fl_X7_of : List AV → HP → Option (Int32 × HP) := fun as h => match as with
  | [.inr (.inr (.inl (7, 0))), .inl a1, .inl a2] => f_X7_of a1 a2 h
  | _ => none
noncomputable def F_X7_of : AF := .inl fl_X7_of
set_option maxRecDepth 20000 in
theorem w_X7_of_18 {p : Program} {l : Launch} {e : Env} {R : Room} {s : State} {m : MethodId} {args : Array Value} {below : List Frame} {meth : Method} {c : Code} {cells slots : Nat} {G : AG} {Q : (Int32 × HP) → State → Prop} (CX : am_X p l e R s m args below meth c cells slots G 3 cX7_of RX7 am_tb P_X7_of am_rI Q) {r : (Int32 × HP)} : ∀ (w1 : Int32) (w2 : Int32) (h : HP), g_X7_of_18 h = some r → am_W p l e R s m args below meth c cells slots G 3 (Q r) 18 [.inr (.inr (.inl (7, 0))), .inl w1, .inl w2] [] h := by
  intro w1 w2 h q
  exact am_run_ok CX ok_X7_of (K := []) (am_K0 (Wp := am_W p l e R s m args below meth c cells slots G 3 (Q r))) 7 18 _ _ _ q
set_option maxRecDepth 20000 in
theorem b_X7_of (l : Launch) (G : AG) : am_B l G 3 cX7_of RX7 am_tb P_X7_of am_rI fl_X7_of := by
  intro p e R s m args below meth c cells slots Q CX as h r q
  unfold fl_X7_of at q
  split at q
  · exact am_run_ok CX ok_X7_of (K := [(18, pk_X7_of_18 (g_X7_of_18))]) (am_K1 (Wp := am_W p l e R s m args below meth c cells slots G 3 (Q r)) (pk_X7_of_18_ok (Wp := am_W p l e R s m args below meth c cells slots G 3 (Q r) 18) (w_X7_of_18 CX)) am_K0) 21 0 _ _ _ q
  · cases q
theorem s_X7_of : ∀ as h x, fl_X7_of as h = some x → (∀ k, (some 7 : Option Nat) = some k → ∃ (j : Nat) (as' : List AV), as = .inr (.inr (.inl (k, j))) :: as') ∧ (am_l0 as).length ≤ 3 := by
  intro as h x q
  unfold fl_X7_of at q
  split at q
  · exact ⟨fun k e => by cases e; exact ⟨_, _, rfl⟩, Nat.le_of_ble_eq_true rfl⟩
  · cases q
theorem M_X7_of (l : Launch) (G : AG) : am_M l G yX7_of cX7_of 3 (some .int) 4 86 (some 7) F_X7_of := am_M_of (f := fl_X7_of) (toR := fun x => (some (.inl x.1), x.2)) (P := P_X7_of) (Rr := am_rI) (own := RX7) (by decide) rfl (fun _ _ => rfl) s_X7_of am_wrI am_rkI pf_RX7 pk_RX7 ps_RX7 (List.forall_mem_cons.mpr ⟨cv_RX7_46 l G (by decide) (by decide), (List.forall_mem_cons.mpr ⟨cv_RX7_50 l G (by decide) (by decide), (List.forall_mem_cons.mpr ⟨cv_RX7_58 l G (by decide) (by decide), (List.forall_mem_cons.mpr ⟨cv_RX7_61 l G (by decide) (by decide), (List.forall_mem_cons.mpr ⟨cv_RX7_78 l G (by decide) (by decide), (List.forall_mem_cons.mpr ⟨cv_RX7_86 l G (by decide) (by decide), (fun _ q => by cases q)⟩)⟩)⟩)⟩)⟩)⟩) (List.forall_mem_cons.mpr ⟨cs_RX7_42 l G (by decide) (by decide), (fun _ q => by cases q)⟩) (fun _ q => by cases q) (b_X7_of l G)
theorem cv_RX7_89 (l : Launch) (G : AG) {fr lo : Nat} (h1 : 0 + 1 ≤ fr) (h2 : 8 + (4 + 11) + 0 ≤ lo) : am_cvOK l G RX7 fr lo (89, 3, F_X7_becomes) := ⟨yX7_becomes, cX7_becomes, 4, (some .int), 0, 0, 7, RX7, M_X7_becomes l G, ⟨(am_tb_mem (wd_18 _ (List.mem_of_getElem? (i := 21) rfl))), (am_tb_mem (wd_18 _ (List.mem_of_getElem? (i := 22) rfl))), (am_tb_mem (wd_0 _ (List.mem_of_getElem? (i := 21) rfl))), (am_tb_mem (wd_1 _ (List.mem_of_getElem? (i := 26) rfl))), (am_tb_mem (wd_18 _ (List.mem_of_getElem? (i := 23) rfl)))⟩, ⟨rfl, by decide, by decide, by decide +kernel⟩, Or.inl ⟨by decide, rfl⟩, h1, h2⟩
def C_X7_set : List AC := [(0, .iload_n 2, 1, []), (1, .iconst 1, 2, []), (2, .if_icmp .eq 8, 5, [10]), (5, .iload_n 2, 6, []), (6, .iconst 2, 7, []), (7, .if_icmp .ne 10, 10, [17]), (10, .iload_n 3, 11, []), (11, .invokestatic 75, 14, []), (14, .goto 23, 17, [37]), (17, .iload_n 2, 18, []), (18, .iconst 3, 19, []), (19, .if_icmp .ne 17, 22, [36]), (22, .iload_n 3, 23, []), (23, .iconst 0, 24, []), (24, .bipush 99, 26, []), (26, .invokestatic 42, 29, []), (29, .ifCond .eq 7, 32, [36]), (32, .iconst 1, 33, []), (33, .goto 4, 36, [37]), (36, .iconst 0, 37, []), (37, .istore 4, 39, []), (39, .aload_n 0, 40, []), (40, .iload_n 1, 41, []), (41, .invokevirtual 86, 44, []), (44, .ifCond .eq 24, 47, [68]), (47, .iload 4, 49, []), (49, .ifCond .eq 19, 52, [68]), (52, .aload_n 0, 53, []), (53, .iconst 4, 54, []), (54, .bipush 6, 56, []), (56, .iload_n 1, 57, []), (57, .imul, 58, []), (58, .iadd, 59, []), (59, .iload_n 2, 60, []), (60, .iadd, 61, []), (61, .iload_n 3, 62, []), (62, .invokevirtual 89, 65, []), (65, .goto 9, 68, [74]), (68, .aload_n 0, 69, []), (69, .ldc 41, 71, []), (71, .invokevirtual 78, 74, []), (74, .ireturn, 75, [])]
theorem ok_X7_set : ∀ x ∈ C_X7_set, am_ok cX7_set 5 x = true := by decide +kernel
noncomputable def P_X7_set : AP := (PF_RX7, PK_RX7, PS_RX7, [(78, 2, F_X7_finds), (86, 2, F_X7_isOne), (89, 3, F_X7_becomes)], [(42, 3, F_X7_in), (75, 1, F_X7_isRoom)], [])
noncomputable def g_X7_set_68  (h : HP) : Option (Int32 × HP) := (f_X7_finds ((-1000000001)) h).bind (fun q_1 => some (q_1.1, q_1.2))
def pk_X7_set_68 (k : HP → Option (Int32 × HP)) : List AV → List AV → HP → Option (Int32 × HP) := fun L st h => match L, st with
  | [.inr (.inr (.inl (7, 0))), .inl _, .inl _, .inl _, .inl _], [] => k h
  | _, _ => none
theorem pk_X7_set_68_ok {Wp : List AV → List AV → HP → Prop} {r : (Int32 × HP)} {k : HP → Option (Int32 × HP)} (hk : ∀ (w1 : Int32) (w2 : Int32) (w3 : Int32) (w4 : Int32) (h : HP), k h = some r → Wp [.inr (.inr (.inl (7, 0))), .inl w1, .inl w2, .inl w3, .inl w4] [] h) : ∀ L st h, pk_X7_set_68 k L st h = some r → Wp L st h := by
  intro L st h q
  unfold pk_X7_set_68 at q
  split at q
  · exact hk _ _ _ _ _ q
  · cases q
noncomputable def g_X7_set_37 (a1 : Int32) (a2 : Int32) (a3 : Int32) (a4 : Int32) (h : HP) : Option (Int32 × HP) := (f_X7_isOne a1 h).bind (fun q_1 => if q_1.1 = (0 : Int32) then (g_X7_set_68 q_1.2) else (if a4 = (0 : Int32) then (g_X7_set_68 q_1.2) else ((f_X7_becomes ((4 + (6 * a1)) + a2) a3 q_1.2).bind (fun q_2 => some (q_2.1, q_2.2)))))
def pk_X7_set_37 (k : Int32 → Int32 → Int32 → Int32 → HP → Option (Int32 × HP)) : List AV → List AV → HP → Option (Int32 × HP) := fun L st h => match L, st with
  | [.inr (.inr (.inl (7, 0))), .inl a1, .inl a2, .inl a3, .inr (.inr (.inr ()))], [.inl a4] => k a1 a2 a3 a4 h
  | _, _ => none
theorem pk_X7_set_37_ok {Wp : List AV → List AV → HP → Prop} {r : (Int32 × HP)} {k : Int32 → Int32 → Int32 → Int32 → HP → Option (Int32 × HP)} (hk : ∀ (a1 : Int32) (a2 : Int32) (a3 : Int32) (a4 : Int32) (h : HP), k a1 a2 a3 a4 h = some r → Wp [.inr (.inr (.inl (7, 0))), .inl a1, .inl a2, .inl a3, .inr (.inr (.inr ()))] [.inl a4] h) : ∀ L st h, pk_X7_set_37 k L st h = some r → Wp L st h := by
  intro L st h q
  unfold pk_X7_set_37 at q
  split at q
  · exact hk _ _ _ _ _ q
  · cases q
noncomputable def f_X7_set (a1 : Int32) (a2 : Int32) (a3 : Int32) (h : HP) : Option (Int32 × HP) := if a2 = (1 : Int32) then ((f_X7_isRoom a3 h).bind (fun q_1 => g_X7_set_37 a1 a2 a3 q_1.1 q_1.2)) else (if a2 = (2 : Int32) then ((f_X7_isRoom a3 h).bind (fun q_3 => g_X7_set_37 a1 a2 a3 q_3.1 q_3.2)) else (if a2 = (3 : Int32) then ((f_X7_in a3 0 99 h).bind (fun q_2 => if q_2.1 = (0 : Int32) then (g_X7_set_37 a1 a2 a3 0 q_2.2) else (g_X7_set_37 a1 a2 a3 1 q_2.2))) else (g_X7_set_37 a1 a2 a3 0 h)))
noncomputable def fl_X7_set : List AV → HP → Option (Int32 × HP) := fun as h => match as with
  | [.inr (.inr (.inl (7, 0))), .inl a1, .inl a2, .inl a3] => f_X7_set a1 a2 a3 h
  | _ => none
noncomputable def F_X7_set : AF := .inl fl_X7_set
set_option maxRecDepth 20000 in
theorem w_X7_set_68 {p : Program} {l : Launch} {e : Env} {R : Room} {s : State} {m : MethodId} {args : Array Value} {below : List Frame} {meth : Method} {c : Code} {cells slots : Nat} {G : AG} {Q : (Int32 × HP) → State → Prop} (CX : am_X p l e R s m args below meth c cells slots G 5 cX7_set RX7 am_tb P_X7_set am_rI Q) {r : (Int32 × HP)} : ∀ (w1 : Int32) (w2 : Int32) (w3 : Int32) (w4 : Int32) (h : HP), g_X7_set_68 h = some r → am_W p l e R s m args below meth c cells slots G 5 (Q r) 68 [.inr (.inr (.inl (7, 0))), .inl w1, .inl w2, .inl w3, .inl w4] [] h := by
  intro w1 w2 w3 w4 h q
  exact am_run_ok CX ok_X7_set (K := []) (am_K0 (Wp := am_W p l e R s m args below meth c cells slots G 5 (Q r))) 7 68 _ _ _ q
set_option maxRecDepth 20000 in
theorem w_X7_set_37 {p : Program} {l : Launch} {e : Env} {R : Room} {s : State} {m : MethodId} {args : Array Value} {below : List Frame} {meth : Method} {c : Code} {cells slots : Nat} {G : AG} {Q : (Int32 × HP) → State → Prop} (CX : am_X p l e R s m args below meth c cells slots G 5 cX7_set RX7 am_tb P_X7_set am_rI Q) {r : (Int32 × HP)} : ∀ (a1 : Int32) (a2 : Int32) (a3 : Int32) (a4 : Int32) (h : HP), g_X7_set_37 a1 a2 a3 a4 h = some r → am_W p l e R s m args below meth c cells slots G 5 (Q r) 37 [.inr (.inr (.inl (7, 0))), .inl a1, .inl a2, .inl a3, .inr (.inr (.inr ()))] [.inl a4] h := by
  intro a1 a2 a3 a4 h q
  exact am_run_ok CX ok_X7_set (K := [(68, pk_X7_set_68 (g_X7_set_68))]) (am_K1 (Wp := am_W p l e R s m args below meth c cells slots G 5 (Q r)) (pk_X7_set_68_ok (Wp := am_W p l e R s m args below meth c cells slots G 5 (Q r) 68) (w_X7_set_68 CX)) am_K0) 22 37 _ _ _ q
set_option maxRecDepth 20000 in
theorem b_X7_set (l : Launch) (G : AG) : am_B l G 5 cX7_set RX7 am_tb P_X7_set am_rI fl_X7_set := by
  intro p e R s m args below meth c cells slots Q CX as h r q
  unfold fl_X7_set at q
  split at q
  · exact am_run_ok CX ok_X7_set (K := [(37, pk_X7_set_37 (g_X7_set_37))]) (am_K1 (Wp := am_W p l e R s m args below meth c cells slots G 5 (Q r)) (pk_X7_set_37_ok (Wp := am_W p l e R s m args below meth c cells slots G 5 (Q r) 37) (w_X7_set_37 CX)) am_K0) 19 0 _ _ _ q
  · cases q
theorem s_X7_set : ∀ as h x, fl_X7_set as h = some x → (∀ k, (some 7 : Option Nat) = some k → ∃ (j : Nat) (as' : List AV), as = .inr (.inr (.inl (k, j))) :: as') ∧ (am_l0 as).length ≤ 5 := by
  intro as h x q
  unfold fl_X7_set at q
  split at q
  · exact ⟨fun k e => by cases e; exact ⟨_, _, rfl⟩, Nat.le_of_ble_eq_true rfl⟩
  · cases q
theorem M_X7_set (l : Launch) (G : AG) : am_M l G yX7_set cX7_set 5 (some .int) 2 43 (some 7) F_X7_set := am_M_of (f := fl_X7_set) (toR := fun x => (some (.inl x.1), x.2)) (P := P_X7_set) (Rr := am_rI) (own := RX7) (by decide) rfl (fun _ _ => rfl) s_X7_set am_wrI am_rkI pf_RX7 pk_RX7 ps_RX7 (List.forall_mem_cons.mpr ⟨cv_RX7_78 l G (by decide) (by decide), (List.forall_mem_cons.mpr ⟨cv_RX7_86 l G (by decide) (by decide), (List.forall_mem_cons.mpr ⟨cv_RX7_89 l G (by decide) (by decide), (fun _ q => by cases q)⟩)⟩)⟩) (List.forall_mem_cons.mpr ⟨cs_RX7_42 l G (by decide) (by decide), (List.forall_mem_cons.mpr ⟨cs_RX7_75 l G (by decide) (by decide), (fun _ q => by cases q)⟩)⟩) (fun _ q => by cases q) (b_X7_set l G)
def C_X7_turn : List AC := [(0, .aload_n 0, 1, []), (1, .iload_n 1, 2, []), (2, .invokevirtual 86, 5, []), (5, .ifCond .eq 24, 8, [29]), (8, .iload_n 2, 9, []), (9, .invokestatic 72, 12, []), (12, .ifCond .eq 17, 15, [29]), (15, .aload_n 0, 16, []), (16, .iconst 4, 17, []), (17, .bipush 6, 19, []), (19, .iload_n 1, 20, []), (20, .imul, 21, []), (21, .iadd, 22, []), (22, .iload_n 2, 23, []), (23, .invokevirtual 89, 26, []), (26, .goto 9, 29, [35]), (29, .aload_n 0, 30, []), (30, .ldc 41, 32, []), (32, .invokevirtual 78, 35, []), (35, .ireturn, 36, [])]
theorem ok_X7_turn : ∀ x ∈ C_X7_turn, am_ok cX7_turn 3 x = true := by decide +kernel
noncomputable def P_X7_turn : AP := (PF_RX7, PK_RX7, PS_RX7, [(78, 2, F_X7_finds), (86, 2, F_X7_isOne), (89, 3, F_X7_becomes)], [(72, 1, F_X7_isKind)], [])
noncomputable def g_X7_turn_29  (h : HP) : Option (Int32 × HP) := (f_X7_finds ((-1000000001)) h).bind (fun q_1 => some (q_1.1, q_1.2))
def pk_X7_turn_29 (k : HP → Option (Int32 × HP)) : List AV → List AV → HP → Option (Int32 × HP) := fun L st h => match L, st with
  | [.inr (.inr (.inl (7, 0))), .inl _, .inl _], [] => k h
  | _, _ => none
theorem pk_X7_turn_29_ok {Wp : List AV → List AV → HP → Prop} {r : (Int32 × HP)} {k : HP → Option (Int32 × HP)} (hk : ∀ (w1 : Int32) (w2 : Int32) (h : HP), k h = some r → Wp [.inr (.inr (.inl (7, 0))), .inl w1, .inl w2] [] h) : ∀ L st h, pk_X7_turn_29 k L st h = some r → Wp L st h := by
  intro L st h q
  unfold pk_X7_turn_29 at q
  split at q
  · exact hk _ _ _ q
  · cases q
noncomputable def f_X7_turn (a1 : Int32) (a2 : Int32) (h : HP) : Option (Int32 × HP) := (f_X7_isOne a1 h).bind (fun q_1 => if q_1.1 = (0 : Int32) then (g_X7_turn_29 q_1.2) else ((f_X7_isKind a2 q_1.2).bind (fun q_2 => if q_2.1 = (0 : Int32) then (g_X7_turn_29 q_2.2) else ((f_X7_becomes (4 + (6 * a1)) a2 q_2.2).bind (fun q_3 => some (q_3.1, q_3.2))))))
noncomputable def fl_X7_turn : List AV → HP → Option (Int32 × HP) := fun as h => match as with
  | [.inr (.inr (.inl (7, 0))), .inl a1, .inl a2] => f_X7_turn a1 a2 h
  | _ => none
noncomputable def F_X7_turn : AF := .inl fl_X7_turn
set_option maxRecDepth 20000 in
theorem w_X7_turn_29 {p : Program} {l : Launch} {e : Env} {R : Room} {s : State} {m : MethodId} {args : Array Value} {below : List Frame} {meth : Method} {c : Code} {cells slots : Nat} {G : AG} {Q : (Int32 × HP) → State → Prop} (CX : am_X p l e R s m args below meth c cells slots G 3 cX7_turn RX7 am_tb P_X7_turn am_rI Q) {r : (Int32 × HP)} : ∀ (w1 : Int32) (w2 : Int32) (h : HP), g_X7_turn_29 h = some r → am_W p l e R s m args below meth c cells slots G 3 (Q r) 29 [.inr (.inr (.inl (7, 0))), .inl w1, .inl w2] [] h := by
  intro w1 w2 h q
  exact am_run_ok CX ok_X7_turn (K := []) (am_K0 (Wp := am_W p l e R s m args below meth c cells slots G 3 (Q r))) 7 29 _ _ _ q
set_option maxRecDepth 20000 in
theorem b_X7_turn (l : Launch) (G : AG) : am_B l G 3 cX7_turn RX7 am_tb P_X7_turn am_rI fl_X7_turn := by
  intro p e R s m args below meth c cells slots Q CX as h r q
  unfold fl_X7_turn at q
  split at q
  · exact am_run_ok CX ok_X7_turn (K := [(29, pk_X7_turn_29 (g_X7_turn_29))]) (am_K1 (Wp := am_W p l e R s m args below meth c cells slots G 3 (Q r)) (pk_X7_turn_29_ok (Wp := am_W p l e R s m args below meth c cells slots G 3 (Q r) 29) (w_X7_turn_29 CX)) am_K0) 20 0 _ _ _ q
  · cases q
theorem s_X7_turn : ∀ as h x, fl_X7_turn as h = some x → (∀ k, (some 7 : Option Nat) = some k → ∃ (j : Nat) (as' : List AV), as = .inr (.inr (.inl (k, j))) :: as') ∧ (am_l0 as).length ≤ 3 := by
  intro as h x q
  unfold fl_X7_turn at q
  split at q
  · exact ⟨fun k e => by cases e; exact ⟨_, _, rfl⟩, Nat.le_of_ble_eq_true rfl⟩
  · cases q
theorem M_X7_turn (l : Launch) (G : AG) : am_M l G yX7_turn cX7_turn 3 (some .int) 2 43 (some 7) F_X7_turn := am_M_of (f := fl_X7_turn) (toR := fun x => (some (.inl x.1), x.2)) (P := P_X7_turn) (Rr := am_rI) (own := RX7) (by decide) rfl (fun _ _ => rfl) s_X7_turn am_wrI am_rkI pf_RX7 pk_RX7 ps_RX7 (List.forall_mem_cons.mpr ⟨cv_RX7_78 l G (by decide) (by decide), (List.forall_mem_cons.mpr ⟨cv_RX7_86 l G (by decide) (by decide), (List.forall_mem_cons.mpr ⟨cv_RX7_89 l G (by decide) (by decide), (fun _ q => by cases q)⟩)⟩)⟩) (List.forall_mem_cons.mpr ⟨cs_RX7_72 l G (by decide) (by decide), (fun _ q => by cases q)⟩) (fun _ q => by cases q) (b_X7_turn l G)
def C_X7_as : List AC := [(0, .aload_n 0, 1, []), (1, .iload_n 1, 2, []), (2, .invokevirtual 86, 5, []), (5, .ifCond .eq 10, 8, [15]), (8, .iload_n 2, 9, []), (9, .invokestatic 72, 12, []), (12, .ifCond .ne 10, 15, [22]), (15, .aload_n 0, 16, []), (16, .ldc 41, 18, []), (18, .invokevirtual 78, 21, []), (21, .ireturn, 22, []), (22, .aload_n 0, 23, []), (23, .iload_n 1, 24, []), (24, .iconst 0, 25, []), (25, .invokevirtual 46, 28, []), (28, .istore_n 3, 29, []), (29, .iload_n 2, 30, []), (30, .ifCond .eq 28, 33, [58]), (33, .iload_n 2, 34, []), (34, .iload_n 3, 35, []), (35, .if_icmp .eq 23, 38, [58]), (38, .iload_n 2, 39, []), (39, .iconst 1, 40, []), (40, .if_icmp .ne 8, 43, [48]), (43, .iload_n 3, 44, []), (44, .iconst 4, 45, []), (45, .if_icmp .eq 13, 48, [58]), (48, .iload_n 2, 49, []), (49, .iconst 2, 50, []), (50, .if_icmp .ne 12, 53, [62]), (53, .iload_n 3, 54, []), (54, .iconst 5, 55, []), (55, .if_icmp .ne 7, 58, [62]), (58, .iconst 1, 59, []), (59, .goto 4, 62, [63]), (62, .iconst 0, 63, []), (63, .istore 4, 65, []), (65, .iload 4, 67, []), (67, .ifCond .eq 12, 70, [79]), (70, .aload_n 0, 71, []), (71, .iload_n 1, 72, []), (72, .iconst 3, 73, []), (73, .invokevirtual 46, 76, []), (76, .goto 9, 79, [85]), (79, .aload_n 0, 80, []), (80, .ldc 92, 82, []), (82, .invokevirtual 78, 85, []), (85, .ireturn, 86, [])]
theorem ok_X7_as : ∀ x ∈ C_X7_as, am_ok cX7_as 5 x = true := by decide +kernel
noncomputable def P_X7_as : AP := (PF_RX7, PK_RX7, PS_RX7, [(46, 3, F_X7_its), (78, 2, F_X7_finds), (86, 2, F_X7_isOne)], [(72, 1, F_X7_isKind)], [])
noncomputable def g_X7_as_63 (a1 : Int32) (a2 : Int32) (h : HP) : Option (Int32 × HP) := if a2 = (0 : Int32) then ((f_X7_finds ((-1000000003)) h).bind (fun q_1 => some (q_1.1, q_1.2))) else ((f_X7_its a1 3 h).bind (fun q_2 => some (q_2.1, q_2.2)))
def pk_X7_as_63 (k : Int32 → Int32 → HP → Option (Int32 × HP)) : List AV → List AV → HP → Option (Int32 × HP) := fun L st h => match L, st with
  | [.inr (.inr (.inl (7, 0))), .inl a1, .inl _, .inl _, .inr (.inr (.inr ()))], [.inl a2] => k a1 a2 h
  | _, _ => none
theorem pk_X7_as_63_ok {Wp : List AV → List AV → HP → Prop} {r : (Int32 × HP)} {k : Int32 → Int32 → HP → Option (Int32 × HP)} (hk : ∀ (a1 : Int32) (a2 : Int32) (w1 : Int32) (w2 : Int32) (h : HP), k a1 a2 h = some r → Wp [.inr (.inr (.inl (7, 0))), .inl a1, .inl w1, .inl w2, .inr (.inr (.inr ()))] [.inl a2] h) : ∀ L st h, pk_X7_as_63 k L st h = some r → Wp L st h := by
  intro L st h q
  unfold pk_X7_as_63 at q
  split at q
  · exact hk _ _ _ _ _ q
  · cases q
noncomputable def g_X7_as_48 (a1 : Int32) (a2 : Int32) (a3 : Int32) (h : HP) : Option (Int32 × HP) := if a2 = (2 : Int32) then (if a3 = (5 : Int32) then (g_X7_as_63 a1 1 h) else (g_X7_as_63 a1 0 h)) else (g_X7_as_63 a1 0 h)
def pk_X7_as_48 (k : Int32 → Int32 → Int32 → HP → Option (Int32 × HP)) : List AV → List AV → HP → Option (Int32 × HP) := fun L st h => match L, st with
  | [.inr (.inr (.inl (7, 0))), .inl a1, .inl a2, .inl a3, .inr (.inr (.inr ()))], [] => k a1 a2 a3 h
  | _, _ => none
theorem pk_X7_as_48_ok {Wp : List AV → List AV → HP → Prop} {r : (Int32 × HP)} {k : Int32 → Int32 → Int32 → HP → Option (Int32 × HP)} (hk : ∀ (a1 : Int32) (a2 : Int32) (a3 : Int32) (h : HP), k a1 a2 a3 h = some r → Wp [.inr (.inr (.inl (7, 0))), .inl a1, .inl a2, .inl a3, .inr (.inr (.inr ()))] [] h) : ∀ L st h, pk_X7_as_48 k L st h = some r → Wp L st h := by
  intro L st h q
  unfold pk_X7_as_48 at q
  split at q
  · exact hk _ _ _ _ q
  · cases q
noncomputable def g_X7_as_15  (h : HP) : Option (Int32 × HP) := (f_X7_finds ((-1000000001)) h).bind (fun q_1 => some (q_1.1, q_1.2))
def pk_X7_as_15 (k : HP → Option (Int32 × HP)) : List AV → List AV → HP → Option (Int32 × HP) := fun L st h => match L, st with
  | [.inr (.inr (.inl (7, 0))), .inl _, .inl _, .inr (.inr (.inr ())), .inr (.inr (.inr ()))], [] => k h
  | _, _ => none
theorem pk_X7_as_15_ok {Wp : List AV → List AV → HP → Prop} {r : (Int32 × HP)} {k : HP → Option (Int32 × HP)} (hk : ∀ (w1 : Int32) (w2 : Int32) (h : HP), k h = some r → Wp [.inr (.inr (.inl (7, 0))), .inl w1, .inl w2, .inr (.inr (.inr ())), .inr (.inr (.inr ()))] [] h) : ∀ L st h, pk_X7_as_15 k L st h = some r → Wp L st h := by
  intro L st h q
  unfold pk_X7_as_15 at q
  split at q
  · exact hk _ _ _ q
  · cases q
noncomputable def f_X7_as (a1 : Int32) (a2 : Int32) (h : HP) : Option (Int32 × HP) := (f_X7_isOne a1 h).bind (fun q_1 => if q_1.1 = (0 : Int32) then (g_X7_as_15 q_1.2) else ((f_X7_isKind a2 q_1.2).bind (fun q_2 => if q_2.1 = (0 : Int32) then (g_X7_as_15 q_2.2) else ((f_X7_its a1 0 q_2.2).bind (fun q_3 => if a2 = (0 : Int32) then (g_X7_as_63 a1 1 q_3.2) else (if a2 = q_3.1 then (g_X7_as_63 a1 1 q_3.2) else (if a2 = (1 : Int32) then (if q_3.1 = (4 : Int32) then (g_X7_as_63 a1 1 q_3.2) else (g_X7_as_48 a1 a2 q_3.1 q_3.2)) else (g_X7_as_48 a1 a2 q_3.1 q_3.2))))))))
noncomputable def fl_X7_as : List AV → HP → Option (Int32 × HP) := fun as h => match as with
  | [.inr (.inr (.inl (7, 0))), .inl a1, .inl a2] => f_X7_as a1 a2 h
  | _ => none
noncomputable def F_X7_as : AF := .inl fl_X7_as
set_option maxRecDepth 20000 in
theorem w_X7_as_63 {p : Program} {l : Launch} {e : Env} {R : Room} {s : State} {m : MethodId} {args : Array Value} {below : List Frame} {meth : Method} {c : Code} {cells slots : Nat} {G : AG} {Q : (Int32 × HP) → State → Prop} (CX : am_X p l e R s m args below meth c cells slots G 5 cX7_as RX7 am_tb P_X7_as am_rI Q) {r : (Int32 × HP)} : ∀ (a1 : Int32) (a2 : Int32) (w1 : Int32) (w2 : Int32) (h : HP), g_X7_as_63 a1 a2 h = some r → am_W p l e R s m args below meth c cells slots G 5 (Q r) 63 [.inr (.inr (.inl (7, 0))), .inl a1, .inl w1, .inl w2, .inr (.inr (.inr ()))] [.inl a2] h := by
  intro a1 a2 w1 w2 h q
  exact am_run_ok CX ok_X7_as (K := []) (am_K0 (Wp := am_W p l e R s m args below meth c cells slots G 5 (Q r))) 12 63 _ _ _ q
set_option maxRecDepth 20000 in
theorem w_X7_as_48 {p : Program} {l : Launch} {e : Env} {R : Room} {s : State} {m : MethodId} {args : Array Value} {below : List Frame} {meth : Method} {c : Code} {cells slots : Nat} {G : AG} {Q : (Int32 × HP) → State → Prop} (CX : am_X p l e R s m args below meth c cells slots G 5 cX7_as RX7 am_tb P_X7_as am_rI Q) {r : (Int32 × HP)} : ∀ (a1 : Int32) (a2 : Int32) (a3 : Int32) (h : HP), g_X7_as_48 a1 a2 a3 h = some r → am_W p l e R s m args below meth c cells slots G 5 (Q r) 48 [.inr (.inr (.inl (7, 0))), .inl a1, .inl a2, .inl a3, .inr (.inr (.inr ()))] [] h := by
  intro a1 a2 a3 h q
  exact am_run_ok CX ok_X7_as (K := [(63, pk_X7_as_63 (g_X7_as_63))]) (am_K1 (Wp := am_W p l e R s m args below meth c cells slots G 5 (Q r)) (pk_X7_as_63_ok (Wp := am_W p l e R s m args below meth c cells slots G 5 (Q r) 63) (w_X7_as_63 CX)) am_K0) 11 48 _ _ _ q
set_option maxRecDepth 20000 in
theorem w_X7_as_15 {p : Program} {l : Launch} {e : Env} {R : Room} {s : State} {m : MethodId} {args : Array Value} {below : List Frame} {meth : Method} {c : Code} {cells slots : Nat} {G : AG} {Q : (Int32 × HP) → State → Prop} (CX : am_X p l e R s m args below meth c cells slots G 5 cX7_as RX7 am_tb P_X7_as am_rI Q) {r : (Int32 × HP)} : ∀ (w1 : Int32) (w2 : Int32) (h : HP), g_X7_as_15 h = some r → am_W p l e R s m args below meth c cells slots G 5 (Q r) 15 [.inr (.inr (.inl (7, 0))), .inl w1, .inl w2, .inr (.inr (.inr ())), .inr (.inr (.inr ()))] [] h := by
  intro w1 w2 h q
  exact am_run_ok CX ok_X7_as (K := []) (am_K0 (Wp := am_W p l e R s m args below meth c cells slots G 5 (Q r))) 7 15 _ _ _ q
set_option maxRecDepth 20000 in
theorem b_X7_as (l : Launch) (G : AG) : am_B l G 5 cX7_as RX7 am_tb P_X7_as am_rI fl_X7_as := by
  intro p e R s m args below meth c cells slots Q CX as h r q
  unfold fl_X7_as at q
  split at q
  · exact am_run_ok CX ok_X7_as (K := [(15, pk_X7_as_15 (g_X7_as_15)), (63, pk_X7_as_63 (g_X7_as_63)), (48, pk_X7_as_48 (g_X7_as_48))]) (am_K1 (Wp := am_W p l e R s m args below meth c cells slots G 5 (Q r)) (pk_X7_as_15_ok (Wp := am_W p l e R s m args below meth c cells slots G 5 (Q r) 15) (w_X7_as_15 CX)) (am_K1 (Wp := am_W p l e R s m args below meth c cells slots G 5 (Q r)) (pk_X7_as_63_ok (Wp := am_W p l e R s m args below meth c cells slots G 5 (Q r) 63) (w_X7_as_63 CX)) (am_K1 (Wp := am_W p l e R s m args below meth c cells slots G 5 (Q r)) (pk_X7_as_48_ok (Wp := am_W p l e R s m args below meth c cells slots G 5 (Q r) 48) (w_X7_as_48 CX)) am_K0))) 28 0 _ _ _ q
  · cases q
theorem s_X7_as : ∀ as h x, fl_X7_as as h = some x → (∀ k, (some 7 : Option Nat) = some k → ∃ (j : Nat) (as' : List AV), as = .inr (.inr (.inl (k, j))) :: as') ∧ (am_l0 as).length ≤ 5 := by
  intro as h x q
  unfold fl_X7_as at q
  split at q
  · exact ⟨fun k e => by cases e; exact ⟨_, _, rfl⟩, Nat.le_of_ble_eq_true rfl⟩
  · cases q
theorem M_X7_as (l : Launch) (G : AG) : am_M l G yX7_as cX7_as 5 (some .int) 2 43 (some 7) F_X7_as := am_M_of (f := fl_X7_as) (toR := fun x => (some (.inl x.1), x.2)) (P := P_X7_as) (Rr := am_rI) (own := RX7) (by decide) rfl (fun _ _ => rfl) s_X7_as am_wrI am_rkI pf_RX7 pk_RX7 ps_RX7 (List.forall_mem_cons.mpr ⟨cv_RX7_46 l G (by decide) (by decide), (List.forall_mem_cons.mpr ⟨cv_RX7_78 l G (by decide) (by decide), (List.forall_mem_cons.mpr ⟨cv_RX7_86 l G (by decide) (by decide), (fun _ q => by cases q)⟩)⟩)⟩) (List.forall_mem_cons.mpr ⟨cs_RX7_72 l G (by decide) (by decide), (fun _ q => by cases q)⟩) (fun _ q => by cases q) (b_X7_as l G)
theorem cv_RX7_93 (l : Launch) (G : AG) {fr lo : Nat} (h1 : 4 + 1 ≤ fr) (h2 : 8 + (7 + 11) + 86 ≤ lo) : am_cvOK l G RX7 fr lo (93, 3, F_X7_opens) := ⟨yX7_opens, cX7_opens, 7, (some .boolean), 4, 86, 7, RX7, M_X7_opens l G, ⟨(am_tb_mem (wd_18 _ (List.mem_of_getElem? (i := 37) rfl))), (am_tb_mem (wd_18 _ (List.mem_of_getElem? (i := 38) rfl))), (am_tb_mem (wd_0 _ (List.mem_of_getElem? (i := 22) rfl))), (am_tb_mem (wd_1 _ (List.mem_of_getElem? (i := 26) rfl))), (am_tb_mem (wd_18 _ (List.mem_of_getElem? (i := 39) rfl)))⟩, ⟨rfl, by decide, by decide, by decide +kernel⟩, Or.inl ⟨by decide, rfl⟩, h1, h2⟩
theorem cv_RX7_97 (l : Launch) (G : AG) {fr lo : Nat} (h1 : 4 + 1 ≤ fr) (h2 : 8 + (4 + 11) + 86 ≤ lo) : am_cvOK l G RX7 fr lo (97, 3, F_X7_leadsTo) := ⟨yX7_leadsTo, cX7_leadsTo, 4, (some .int), 4, 86, 7, RX7, M_X7_leadsTo l G, ⟨(am_tb_mem (wd_19 _ (List.mem_of_getElem? (i := 0) rfl))), (am_tb_mem (wd_19 _ (List.mem_of_getElem? (i := 1) rfl))), (am_tb_mem (wd_0 _ (List.mem_of_getElem? (i := 23) rfl))), (am_tb_mem (wd_1 _ (List.mem_of_getElem? (i := 26) rfl))), (am_tb_mem (wd_19 _ (List.mem_of_getElem? (i := 2) rfl)))⟩, ⟨rfl, by decide, by decide, by decide +kernel⟩, Or.inl ⟨by decide, rfl⟩, h1, h2⟩
def C_X7_leads : List AC := [(0, .aload_n 0, 1, []), (1, .iload_n 1, 2, []), (2, .invokevirtual 86, 5, []), (5, .ifCond .eq 10, 8, [15]), (8, .iload_n 2, 9, []), (9, .invokestatic 75, 12, []), (12, .ifCond .ne 10, 15, [22]), (15, .aload_n 0, 16, []), (16, .ldc 41, 18, []), (18, .invokevirtual 78, 21, []), (21, .ireturn, 22, []), (22, .aload_n 0, 23, []), (23, .iload_n 1, 24, []), (24, .iload_n 2, 25, []), (25, .invokevirtual 93, 28, []), (28, .ifCond .eq 12, 31, [40]), (31, .aload_n 0, 32, []), (32, .iload_n 1, 33, []), (33, .iload_n 2, 34, []), (34, .invokevirtual 97, 37, []), (37, .goto 9, 40, [46]), (40, .aload_n 0, 41, []), (41, .ldc 100, 43, []), (43, .invokevirtual 78, 46, []), (46, .ireturn, 47, [])]
theorem ok_X7_leads : ∀ x ∈ C_X7_leads, am_ok cX7_leads 3 x = true := by decide +kernel
noncomputable def P_X7_leads : AP := (PF_RX7, PK_RX7, PS_RX7, [(78, 2, F_X7_finds), (86, 2, F_X7_isOne), (93, 3, F_X7_opens), (97, 3, F_X7_leadsTo)], [(75, 1, F_X7_isRoom)], [])
noncomputable def g_X7_leads_15  (h : HP) : Option (Int32 × HP) := (f_X7_finds ((-1000000001)) h).bind (fun q_1 => some (q_1.1, q_1.2))
def pk_X7_leads_15 (k : HP → Option (Int32 × HP)) : List AV → List AV → HP → Option (Int32 × HP) := fun L st h => match L, st with
  | [.inr (.inr (.inl (7, 0))), .inl _, .inl _], [] => k h
  | _, _ => none
theorem pk_X7_leads_15_ok {Wp : List AV → List AV → HP → Prop} {r : (Int32 × HP)} {k : HP → Option (Int32 × HP)} (hk : ∀ (w1 : Int32) (w2 : Int32) (h : HP), k h = some r → Wp [.inr (.inr (.inl (7, 0))), .inl w1, .inl w2] [] h) : ∀ L st h, pk_X7_leads_15 k L st h = some r → Wp L st h := by
  intro L st h q
  unfold pk_X7_leads_15 at q
  split at q
  · exact hk _ _ _ q
  · cases q
noncomputable def f_X7_leads (a1 : Int32) (a2 : Int32) (h : HP) : Option (Int32 × HP) := (f_X7_isOne a1 h).bind (fun q_1 => if q_1.1 = (0 : Int32) then (g_X7_leads_15 q_1.2) else ((f_X7_isRoom a2 q_1.2).bind (fun q_2 => if q_2.1 = (0 : Int32) then (g_X7_leads_15 q_2.2) else ((f_X7_opens a1 a2 q_2.2).bind (fun q_3 => if q_3.1 = (0 : Int32) then ((f_X7_finds ((-1000000004)) q_3.2).bind (fun q_4 => some (q_4.1, q_4.2))) else ((f_X7_leadsTo a1 a2 q_3.2).bind (fun q_5 => some (q_5.1, q_5.2))))))))
noncomputable def fl_X7_leads : List AV → HP → Option (Int32 × HP) := fun as h => match as with
  | [.inr (.inr (.inl (7, 0))), .inl a1, .inl a2] => f_X7_leads a1 a2 h
  | _ => none
noncomputable def F_X7_leads : AF := .inl fl_X7_leads
set_option maxRecDepth 20000 in
theorem w_X7_leads_15 {p : Program} {l : Launch} {e : Env} {R : Room} {s : State} {m : MethodId} {args : Array Value} {below : List Frame} {meth : Method} {c : Code} {cells slots : Nat} {G : AG} {Q : (Int32 × HP) → State → Prop} (CX : am_X p l e R s m args below meth c cells slots G 3 cX7_leads RX7 am_tb P_X7_leads am_rI Q) {r : (Int32 × HP)} : ∀ (w1 : Int32) (w2 : Int32) (h : HP), g_X7_leads_15 h = some r → am_W p l e R s m args below meth c cells slots G 3 (Q r) 15 [.inr (.inr (.inl (7, 0))), .inl w1, .inl w2] [] h := by
  intro w1 w2 h q
  exact am_run_ok CX ok_X7_leads (K := []) (am_K0 (Wp := am_W p l e R s m args below meth c cells slots G 3 (Q r))) 7 15 _ _ _ q
set_option maxRecDepth 20000 in
theorem b_X7_leads (l : Launch) (G : AG) : am_B l G 3 cX7_leads RX7 am_tb P_X7_leads am_rI fl_X7_leads := by
  intro p e R s m args below meth c cells slots Q CX as h r q
  unfold fl_X7_leads at q
  split at q
  · exact am_run_ok CX ok_X7_leads (K := [(15, pk_X7_leads_15 (g_X7_leads_15))]) (am_K1 (Wp := am_W p l e R s m args below meth c cells slots G 3 (Q r)) (pk_X7_leads_15_ok (Wp := am_W p l e R s m args below meth c cells slots G 3 (Q r) 15) (w_X7_leads_15 CX)) am_K0) 21 0 _ _ _ q
  · cases q
theorem s_X7_leads : ∀ as h x, fl_X7_leads as h = some x → (∀ k, (some 7 : Option Nat) = some k → ∃ (j : Nat) (as' : List AV), as = .inr (.inr (.inl (k, j))) :: as') ∧ (am_l0 as).length ≤ 3 := by
  intro as h x q
  unfold fl_X7_leads at q
  split at q
  · exact ⟨fun k e => by cases e; exact ⟨_, _, rfl⟩, Nat.le_of_ble_eq_true rfl⟩
  · cases q
theorem M_X7_leads (l : Launch) (G : AG) : am_M l G yX7_leads cX7_leads 3 (some .int) 5 112 (some 7) F_X7_leads := am_M_of (f := fl_X7_leads) (toR := fun x => (some (.inl x.1), x.2)) (P := P_X7_leads) (Rr := am_rI) (own := RX7) (by decide) rfl (fun _ _ => rfl) s_X7_leads am_wrI am_rkI pf_RX7 pk_RX7 ps_RX7 (List.forall_mem_cons.mpr ⟨cv_RX7_78 l G (by decide) (by decide), (List.forall_mem_cons.mpr ⟨cv_RX7_86 l G (by decide) (by decide), (List.forall_mem_cons.mpr ⟨cv_RX7_93 l G (by decide) (by decide), (List.forall_mem_cons.mpr ⟨cv_RX7_97 l G (by decide) (by decide), (fun _ q => by cases q)⟩)⟩)⟩)⟩) (List.forall_mem_cons.mpr ⟨cs_RX7_75 l G (by decide) (by decide), (fun _ q => by cases q)⟩) (fun _ q => by cases q) (b_X7_leads l G)
theorem cv_RX7_101 (l : Launch) (G : AG) {fr lo : Nat} (h1 : 1 + 1 ≤ fr) (h2 : 8 + (7 + 11) + 22 ≤ lo) : am_cvOK l G RX7 fr lo (101, 3, F_X7_arePair) := ⟨yX7_arePair, cX7_arePair, 7, (some .boolean), 1, 22, 7, RX7, M_X7_arePair l G, ⟨(am_tb_mem (wd_19 _ (List.mem_of_getElem? (i := 8) rfl))), (am_tb_mem (wd_19 _ (List.mem_of_getElem? (i := 9) rfl))), (am_tb_mem (wd_0 _ (List.mem_of_getElem? (i := 24) rfl))), (am_tb_mem (wd_1 _ (List.mem_of_getElem? (i := 26) rfl))), (am_tb_mem (wd_19 _ (List.mem_of_getElem? (i := 10) rfl)))⟩, ⟨rfl, by decide, by decide, by decide +kernel⟩, Or.inl ⟨by decide, rfl⟩, h1, h2⟩
def C_X7_pair : List AC := [(0, .aload_n 0, 1, []), (1, .iload_n 1, 2, []), (2, .invokevirtual 86, 5, []), (5, .ifCond .eq 16, 8, [21]), (8, .aload_n 0, 9, []), (9, .iload_n 2, 10, []), (10, .invokevirtual 86, 13, []), (13, .ifCond .eq 8, 16, [21]), (16, .iload_n 1, 17, []), (17, .iload_n 2, 18, []), (18, .if_icmp .ne 10, 21, [28]), (21, .aload_n 0, 22, []), (22, .ldc 41, 24, []), (24, .invokevirtual 78, 27, []), (27, .ireturn, 28, []), (28, .aload_n 0, 29, []), (29, .iload_n 1, 30, []), (30, .iload_n 2, 31, []), (31, .invokevirtual 101, 34, []), (34, .ifCond .eq 7, 37, [41]), (37, .iconst 1, 38, []), (38, .goto 4, 41, [42]), (41, .iconst 0, 42, []), (42, .ireturn, 43, [])]
theorem ok_X7_pair : ∀ x ∈ C_X7_pair, am_ok cX7_pair 3 x = true := by decide +kernel
noncomputable def P_X7_pair : AP := (PF_RX7, PK_RX7, PS_RX7, [(78, 2, F_X7_finds), (86, 2, F_X7_isOne), (101, 3, F_X7_arePair)], [], [])
noncomputable def g_X7_pair_21  (h : HP) : Option (Int32 × HP) := (f_X7_finds ((-1000000001)) h).bind (fun q_1 => some (q_1.1, q_1.2))
def pk_X7_pair_21 (k : HP → Option (Int32 × HP)) : List AV → List AV → HP → Option (Int32 × HP) := fun L st h => match L, st with
  | [.inr (.inr (.inl (7, 0))), .inl _, .inl _], [] => k h
  | _, _ => none
theorem pk_X7_pair_21_ok {Wp : List AV → List AV → HP → Prop} {r : (Int32 × HP)} {k : HP → Option (Int32 × HP)} (hk : ∀ (w1 : Int32) (w2 : Int32) (h : HP), k h = some r → Wp [.inr (.inr (.inl (7, 0))), .inl w1, .inl w2] [] h) : ∀ L st h, pk_X7_pair_21 k L st h = some r → Wp L st h := by
  intro L st h q
  unfold pk_X7_pair_21 at q
  split at q
  · exact hk _ _ _ q
  · cases q
noncomputable def f_X7_pair (a1 : Int32) (a2 : Int32) (h : HP) : Option (Int32 × HP) := (f_X7_isOne a1 h).bind (fun q_1 => if q_1.1 = (0 : Int32) then (g_X7_pair_21 q_1.2) else ((f_X7_isOne a2 q_1.2).bind (fun q_2 => if q_2.1 = (0 : Int32) then (g_X7_pair_21 q_2.2) else (if a1 = a2 then (g_X7_pair_21 q_2.2) else ((f_X7_arePair a1 a2 q_2.2).bind (fun q_3 => if q_3.1 = (0 : Int32) then (some (0, q_3.2)) else (some (1, q_3.2))))))))
noncomputable def fl_X7_pair : List AV → HP → Option (Int32 × HP) := fun as h => match as with
  | [.inr (.inr (.inl (7, 0))), .inl a1, .inl a2] => f_X7_pair a1 a2 h
  | _ => none
noncomputable def F_X7_pair : AF := .inl fl_X7_pair
set_option maxRecDepth 20000 in
theorem w_X7_pair_21 {p : Program} {l : Launch} {e : Env} {R : Room} {s : State} {m : MethodId} {args : Array Value} {below : List Frame} {meth : Method} {c : Code} {cells slots : Nat} {G : AG} {Q : (Int32 × HP) → State → Prop} (CX : am_X p l e R s m args below meth c cells slots G 3 cX7_pair RX7 am_tb P_X7_pair am_rI Q) {r : (Int32 × HP)} : ∀ (w1 : Int32) (w2 : Int32) (h : HP), g_X7_pair_21 h = some r → am_W p l e R s m args below meth c cells slots G 3 (Q r) 21 [.inr (.inr (.inl (7, 0))), .inl w1, .inl w2] [] h := by
  intro w1 w2 h q
  exact am_run_ok CX ok_X7_pair (K := []) (am_K0 (Wp := am_W p l e R s m args below meth c cells slots G 3 (Q r))) 7 21 _ _ _ q
set_option maxRecDepth 20000 in
theorem b_X7_pair (l : Launch) (G : AG) : am_B l G 3 cX7_pair RX7 am_tb P_X7_pair am_rI fl_X7_pair := by
  intro p e R s m args below meth c cells slots Q CX as h r q
  unfold fl_X7_pair at q
  split at q
  · exact am_run_ok CX ok_X7_pair (K := [(21, pk_X7_pair_21 (g_X7_pair_21))]) (am_K1 (Wp := am_W p l e R s m args below meth c cells slots G 3 (Q r)) (pk_X7_pair_21_ok (Wp := am_W p l e R s m args below meth c cells slots G 3 (Q r) 21) (w_X7_pair_21 CX)) am_K0) 22 0 _ _ _ q
  · cases q
theorem s_X7_pair : ∀ as h x, fl_X7_pair as h = some x → (∀ k, (some 7 : Option Nat) = some k → ∃ (j : Nat) (as' : List AV), as = .inr (.inr (.inl (k, j))) :: as') ∧ (am_l0 as).length ≤ 3 := by
  intro as h x q
  unfold fl_X7_pair at q
  split at q
  · exact ⟨fun k e => by cases e; exact ⟨_, _, rfl⟩, Nat.le_of_ble_eq_true rfl⟩
  · cases q
theorem M_X7_pair (l : Launch) (G : AG) : am_M l G yX7_pair cX7_pair 3 (some .int) 2 48 (some 7) F_X7_pair := am_M_of (f := fl_X7_pair) (toR := fun x => (some (.inl x.1), x.2)) (P := P_X7_pair) (Rr := am_rI) (own := RX7) (by decide) rfl (fun _ _ => rfl) s_X7_pair am_wrI am_rkI pf_RX7 pk_RX7 ps_RX7 (List.forall_mem_cons.mpr ⟨cv_RX7_78 l G (by decide) (by decide), (List.forall_mem_cons.mpr ⟨cv_RX7_86 l G (by decide) (by decide), (List.forall_mem_cons.mpr ⟨cv_RX7_101 l G (by decide) (by decide), (fun _ q => by cases q)⟩)⟩)⟩) (fun _ q => by cases q) (fun _ q => by cases q) (b_X7_pair l G)
theorem cv_RX7_104 (l : Launch) (G : AG) {fr lo : Nat} (h1 : 0 + 1 ≤ fr) (h2 : 8 + (3 + 11) + 0 ≤ lo) : am_cvOK l G RX7 fr lo (104, 2, F_X7_addMember) := ⟨yX7_addMember, cX7_addMember, 3, none, 0, 0, 7, RX7, M_X7_addMember l G, ⟨(am_tb_mem (wd_19 _ (List.mem_of_getElem? (i := 15) rfl))), (am_tb_mem (wd_19 _ (List.mem_of_getElem? (i := 16) rfl))), (am_tb_mem (wd_0 _ (List.mem_of_getElem? (i := 25) rfl))), (am_tb_mem (wd_1 _ (List.mem_of_getElem? (i := 26) rfl))), (am_tb_mem (wd_19 _ (List.mem_of_getElem? (i := 17) rfl)))⟩, ⟨rfl, by decide, by decide, by decide +kernel⟩, Or.inl ⟨by decide, rfl⟩, h1, h2⟩
def C_X7_member : List AC := [(0, .iload_n 1, 1, []), (1, .invokestatic 75, 4, []), (4, .ifCond .ne 10, 7, [14]), (7, .aload_n 0, 8, []), (8, .ldc 41, 10, []), (10, .invokevirtual 78, 13, []), (13, .ireturn, 14, []), (14, .aload_n 0, 15, []), (15, .getfield 7, 18, []), (18, .iconst 3, 19, []), (19, .iaload, 20, []), (20, .bipush 6, 22, []), (22, .if_icmp .ne 10, 25, [32]), (25, .aload_n 0, 26, []), (26, .ldc 81, 28, []), (28, .invokevirtual 78, 31, []), (31, .ireturn, 32, []), (32, .aload_n 0, 33, []), (33, .iload_n 1, 34, []), (34, .invokevirtual 104, 37, []), (37, .aload_n 0, 38, []), (38, .getfield 7, 41, []), (41, .iconst 3, 42, []), (42, .iaload, 43, []), (43, .iconst 1, 44, []), (44, .isub, 45, []), (45, .ireturn, 46, [])]
theorem ok_X7_member : ∀ x ∈ C_X7_member, am_ok cX7_member 2 x = true := by decide +kernel
noncomputable def P_X7_member : AP := (PF_RX7, PK_RX7, PS_RX7, [(78, 2, F_X7_finds), (104, 2, F_X7_addMember)], [(75, 1, F_X7_isRoom)], [])
noncomputable def f_X7_member (a1 : Int32) (h : HP) : Option (Int32 × HP) := (f_X7_isRoom a1 h).bind (fun q_1 => if q_1.1 = (0 : Int32) then ((f_X7_finds ((-1000000001)) q_1.2).bind (fun q_6 => some (q_6.1, q_6.2))) else ((am_ix (3 : Int32) 64).bind (fun k_2 => if h_rI q_1.2 13 0 k_2 = (6 : Int32) then ((f_X7_finds ((-1000000002)) q_1.2).bind (fun q_5 => some (q_5.1, q_5.2))) else ((f_X7_addMember a1 q_1.2).bind (fun q_3 => (am_ix (3 : Int32) 64).bind (fun k_4 => some ((h_rI q_3 13 0 k_4) - 1, q_3)))))))
noncomputable def fl_X7_member : List AV → HP → Option (Int32 × HP) := fun as h => match as with
  | [.inr (.inr (.inl (7, 0))), .inl a1] => f_X7_member a1 h
  | _ => none
noncomputable def F_X7_member : AF := .inl fl_X7_member
set_option maxRecDepth 20000 in
theorem b_X7_member (l : Launch) (G : AG) : am_B l G 2 cX7_member RX7 am_tb P_X7_member am_rI fl_X7_member := by
  intro p e R s m args below meth c cells slots Q CX as h r q
  unfold fl_X7_member at q
  split at q
  · exact am_run_ok CX ok_X7_member (K := []) (am_K0 (Wp := am_W p l e R s m args below meth c cells slots G 2 (Q r))) 22 0 _ _ _ q
  · cases q
theorem s_X7_member : ∀ as h x, fl_X7_member as h = some x → (∀ k, (some 7 : Option Nat) = some k → ∃ (j : Nat) (as' : List AV), as = .inr (.inr (.inl (k, j))) :: as') ∧ (am_l0 as).length ≤ 2 := by
  intro as h x q
  unfold fl_X7_member at q
  split at q
  · exact ⟨fun k e => by cases e; exact ⟨_, _, rfl⟩, Nat.le_of_ble_eq_true rfl⟩
  · cases q
theorem M_X7_member (l : Launch) (G : AG) : am_M l G yX7_member cX7_member 2 (some .int) 2 42 (some 7) F_X7_member := am_M_of (f := fl_X7_member) (toR := fun x => (some (.inl x.1), x.2)) (P := P_X7_member) (Rr := am_rI) (own := RX7) (by decide) rfl (fun _ _ => rfl) s_X7_member am_wrI am_rkI pf_RX7 pk_RX7 ps_RX7 (List.forall_mem_cons.mpr ⟨cv_RX7_78 l G (by decide) (by decide), (List.forall_mem_cons.mpr ⟨cv_RX7_104 l G (by decide) (by decide), (fun _ q => by cases q)⟩)⟩) (List.forall_mem_cons.mpr ⟨cs_RX7_75 l G (by decide) (by decide), (fun _ q => by cases q)⟩) (fun _ q => by cases q) (b_X7_member l G)
def C_X7_holds : List AC := [(0, .iconst 0, 1, []), (1, .istore_n 2, 2, []), (2, .iconst 0, 3, []), (3, .istore_n 3, 4, []), (4, .iload_n 3, 5, []), (5, .aload_n 0, 6, []), (6, .getfield 7, 9, []), (9, .iconst 2, 10, []), (10, .iaload, 11, []), (11, .if_icmp .ge 29, 14, [40]), (14, .iload_n 2, 15, []), (15, .aload_n 0, 16, []), (16, .iload_n 3, 17, []), (17, .iconst 4, 18, []), (18, .invokevirtual 46, 21, []), (21, .iload_n 1, 22, []), (22, .if_icmp .ne 9, 25, [31]), (25, .iconst 1, 26, []), (26, .iload_n 3, 27, []), (27, .ishl, 28, []), (28, .goto 4, 31, [32]), (31, .iconst 0, 32, []), (32, .ior, 33, []), (33, .istore_n 2, 34, []), (34, .iinc 3 1, 37, []), (37, .goto (-33), 40, [4]), (40, .iload_n 2, 41, []), (41, .ireturn, 42, [])]
theorem ok_X7_holds : ∀ x ∈ C_X7_holds, am_ok cX7_holds 4 x = true := by decide +kernel
noncomputable def P_X7_holds : AP := (PF_RX7, PK_RX7, PS_RX7, [(46, 3, F_X7_its)], [], [])
noncomputable def g_X7_holds_4  : Nat → Int32 → Int32 → Int32 → HP → Option (Int32 × HP)
  | 0, _, _, _, _ => none
  | n + 1, a1, a2, a3, h => (am_ix (2 : Int32) 64).bind (fun k_1 => if h_rI h 13 0 k_1 ≤ a3 then (some (a2, h)) else ((f_X7_its a3 4 h).bind (fun q_2 => if q_2.1 = a1 then (g_X7_holds_4 n a1 (a2 ||| (1 <<< (a3 &&& 31))) (a3 + 1) q_2.2) else (g_X7_holds_4 n a1 (a2 ||| 0) (a3 + 1) q_2.2))))
def pk_X7_holds_4 (k : Int32 → Int32 → Int32 → HP → Option (Int32 × HP)) : List AV → List AV → HP → Option (Int32 × HP) := fun L st h => match L, st with
  | [.inr (.inr (.inl (7, 0))), .inl a1, .inl a2, .inl a3], [] => k a1 a2 a3 h
  | _, _ => none
theorem pk_X7_holds_4_ok {Wp : List AV → List AV → HP → Prop} {r : (Int32 × HP)} {k : Int32 → Int32 → Int32 → HP → Option (Int32 × HP)} (hk : ∀ (a1 : Int32) (a2 : Int32) (a3 : Int32) (h : HP), k a1 a2 a3 h = some r → Wp [.inr (.inr (.inl (7, 0))), .inl a1, .inl a2, .inl a3] [] h) : ∀ L st h, pk_X7_holds_4 k L st h = some r → Wp L st h := by
  intro L st h q
  unfold pk_X7_holds_4 at q
  split at q
  · exact hk _ _ _ _ q
  · cases q
noncomputable def f_X7_holds (a1 : Int32) (h : HP) : Option (Int32 × HP) := g_X7_holds_4 am_fu a1 0 0 h
noncomputable def fl_X7_holds : List AV → HP → Option (Int32 × HP) := fun as h => match as with
  | [.inr (.inr (.inl (7, 0))), .inl a1] => f_X7_holds a1 h
  | _ => none
noncomputable def F_X7_holds : AF := .inl fl_X7_holds
set_option maxRecDepth 20000 in
theorem w_X7_holds_4 {p : Program} {l : Launch} {e : Env} {R : Room} {s : State} {m : MethodId} {args : Array Value} {below : List Frame} {meth : Method} {c : Code} {cells slots : Nat} {G : AG} {Q : (Int32 × HP) → State → Prop} (CX : am_X p l e R s m args below meth c cells slots G 4 cX7_holds RX7 am_tb P_X7_holds am_rI Q) {r : (Int32 × HP)} : ∀ (n : Nat) (a1 : Int32) (a2 : Int32) (a3 : Int32) (h : HP), g_X7_holds_4 n a1 a2 a3 h = some r → am_W p l e R s m args below meth c cells slots G 4 (Q r) 4 [.inr (.inr (.inl (7, 0))), .inl a1, .inl a2, .inl a3] [] h := by
  intro n
  induction n with
  | zero =>
    intro a1 a2 a3 h q
    have q9 : (none : Option (Int32 × HP)) = some r := q
    cases q9
  | succ n ih =>
    intro a1 a2 a3 h q
    exact am_run_ok CX ok_X7_holds (K := [(4, pk_X7_holds_4 (g_X7_holds_4 n))]) (am_K1 (Wp := am_W p l e R s m args below meth c cells slots G 4 (Q r)) (pk_X7_holds_4_ok (Wp := am_W p l e R s m args below meth c cells slots G 4 (Q r) 4) ih) am_K0) 24 4 _ _ _ q
set_option maxRecDepth 20000 in
theorem b_X7_holds (l : Launch) (G : AG) : am_B l G 4 cX7_holds RX7 am_tb P_X7_holds am_rI fl_X7_holds := by
  intro p e R s m args below meth c cells slots Q CX as h r q
  unfold fl_X7_holds at q
  split at q
  · exact am_run_ok CX ok_X7_holds (K := [(4, pk_X7_holds_4 (g_X7_holds_4 am_fu))]) (am_K1 (Wp := am_W p l e R s m args below meth c cells slots G 4 (Q r)) (pk_X7_holds_4_ok (Wp := am_W p l e R s m args below meth c cells slots G 4 (Q r) 4) (w_X7_holds_4 CX am_fu)) am_K0) 7 0 _ _ _ q
  · cases q
theorem s_X7_holds : ∀ as h x, fl_X7_holds as h = some x → (∀ k, (some 7 : Option Nat) = some k → ∃ (j : Nat) (as' : List AV), as = .inr (.inr (.inl (k, j))) :: as') ∧ (am_l0 as).length ≤ 4 := by
  intro as h x q
  unfold fl_X7_holds at q
  split at q
  · exact ⟨fun k e => by cases e; exact ⟨_, _, rfl⟩, Nat.le_of_ble_eq_true rfl⟩
  · cases q
theorem M_X7_holds (l : Launch) (G : AG) : am_M l G yX7_holds cX7_holds 4 (some .int) 1 22 (some 7) F_X7_holds := am_M_of (f := fl_X7_holds) (toR := fun x => (some (.inl x.1), x.2)) (P := P_X7_holds) (Rr := am_rI) (own := RX7) (by decide) rfl (fun _ _ => rfl) s_X7_holds am_wrI am_rkI pf_RX7 pk_RX7 ps_RX7 (List.forall_mem_cons.mpr ⟨cv_RX7_46 l G (by decide) (by decide), (fun _ q => by cases q)⟩) (fun _ q => by cases q) (fun _ q => by cases q) (b_X7_holds l G)
theorem cv_RX7_108 (l : Launch) (G : AG) {fr lo : Nat} (h1 : 0 + 1 ≤ fr) (h2 : 8 + (3 + 11) + 0 ≤ lo) : am_cvOK l G RX7 fr lo (108, 3, F_X7_whose) := ⟨yX7_whose, cX7_whose, 3, (some .int), 0, 0, 7, RX7, M_X7_whose l G, ⟨(am_tb_mem (wd_19 _ (List.mem_of_getElem? (i := 25) rfl))), (am_tb_mem (wd_19 _ (List.mem_of_getElem? (i := 26) rfl))), (am_tb_mem (wd_0 _ (List.mem_of_getElem? (i := 27) rfl))), (am_tb_mem (wd_1 _ (List.mem_of_getElem? (i := 26) rfl))), (am_tb_mem (wd_19 _ (List.mem_of_getElem? (i := 27) rfl)))⟩, ⟨rfl, by decide, by decide, by decide +kernel⟩, Or.inl ⟨by decide, rfl⟩, h1, h2⟩
def C_X7_openTo : List AC := [(0, .iconst 0, 1, []), (1, .istore_n 2, 2, []), (2, .iconst 0, 3, []), (3, .istore_n 3, 4, []), (4, .iload_n 3, 5, []), (5, .aload_n 0, 6, []), (6, .getfield 7, 9, []), (9, .iconst 2, 10, []), (10, .iaload, 11, []), (11, .if_icmp .ge 43, 14, [54]), (14, .iload_n 2, 15, []), (15, .aload_n 0, 16, []), (16, .iload_n 3, 17, []), (17, .iconst 4, 18, []), (18, .invokevirtual 46, 21, []), (21, .iload_n 1, 22, []), (22, .if_icmp .ne 23, 25, [45]), (25, .aload_n 0, 26, []), (26, .iload_n 3, 27, []), (27, .aload_n 0, 28, []), (28, .iload_n 1, 29, []), (29, .iconst 0, 30, []), (30, .invokevirtual 108, 33, []), (33, .invokevirtual 93, 36, []), (36, .ifCond .eq 9, 39, [45]), (39, .iconst 1, 40, []), (40, .iload_n 3, 41, []), (41, .ishl, 42, []), (42, .goto 4, 45, [46]), (45, .iconst 0, 46, []), (46, .ior, 47, []), (47, .istore_n 2, 48, []), (48, .iinc 3 1, 51, []), (51, .goto (-47), 54, [4]), (54, .iload_n 2, 55, []), (55, .ireturn, 56, [])]
theorem ok_X7_openTo : ∀ x ∈ C_X7_openTo, am_ok cX7_openTo 4 x = true := by decide +kernel
noncomputable def P_X7_openTo : AP := (PF_RX7, PK_RX7, PS_RX7, [(46, 3, F_X7_its), (93, 3, F_X7_opens), (108, 3, F_X7_whose)], [], [])
noncomputable def g_X7_openTo_4  : Nat → Int32 → Int32 → Int32 → HP → Option (Int32 × HP)
  | 0, _, _, _, _ => none
  | n + 1, a1, a2, a3, h => (am_ix (2 : Int32) 64).bind (fun k_1 => if h_rI h 13 0 k_1 ≤ a3 then (some (a2, h)) else ((f_X7_its a3 4 h).bind (fun q_2 => if q_2.1 = a1 then ((f_X7_whose a1 0 q_2.2).bind (fun q_3 => (f_X7_opens a3 q_3.1 q_3.2).bind (fun q_4 => if q_4.1 = (0 : Int32) then (g_X7_openTo_4 n a1 (a2 ||| 0) (a3 + 1) q_4.2) else (g_X7_openTo_4 n a1 (a2 ||| (1 <<< (a3 &&& 31))) (a3 + 1) q_4.2)))) else (g_X7_openTo_4 n a1 (a2 ||| 0) (a3 + 1) q_2.2))))
def pk_X7_openTo_4 (k : Int32 → Int32 → Int32 → HP → Option (Int32 × HP)) : List AV → List AV → HP → Option (Int32 × HP) := fun L st h => match L, st with
  | [.inr (.inr (.inl (7, 0))), .inl a1, .inl a2, .inl a3], [] => k a1 a2 a3 h
  | _, _ => none
theorem pk_X7_openTo_4_ok {Wp : List AV → List AV → HP → Prop} {r : (Int32 × HP)} {k : Int32 → Int32 → Int32 → HP → Option (Int32 × HP)} (hk : ∀ (a1 : Int32) (a2 : Int32) (a3 : Int32) (h : HP), k a1 a2 a3 h = some r → Wp [.inr (.inr (.inl (7, 0))), .inl a1, .inl a2, .inl a3] [] h) : ∀ L st h, pk_X7_openTo_4 k L st h = some r → Wp L st h := by
  intro L st h q
  unfold pk_X7_openTo_4 at q
  split at q
  · exact hk _ _ _ _ q
  · cases q
noncomputable def f_X7_openTo (a1 : Int32) (h : HP) : Option (Int32 × HP) := g_X7_openTo_4 am_fu a1 0 0 h
noncomputable def fl_X7_openTo : List AV → HP → Option (Int32 × HP) := fun as h => match as with
  | [.inr (.inr (.inl (7, 0))), .inl a1] => f_X7_openTo a1 h
  | _ => none
noncomputable def F_X7_openTo : AF := .inl fl_X7_openTo
set_option maxRecDepth 20000 in
theorem w_X7_openTo_4 {p : Program} {l : Launch} {e : Env} {R : Room} {s : State} {m : MethodId} {args : Array Value} {below : List Frame} {meth : Method} {c : Code} {cells slots : Nat} {G : AG} {Q : (Int32 × HP) → State → Prop} (CX : am_X p l e R s m args below meth c cells slots G 4 cX7_openTo RX7 am_tb P_X7_openTo am_rI Q) {r : (Int32 × HP)} : ∀ (n : Nat) (a1 : Int32) (a2 : Int32) (a3 : Int32) (h : HP), g_X7_openTo_4 n a1 a2 a3 h = some r → am_W p l e R s m args below meth c cells slots G 4 (Q r) 4 [.inr (.inr (.inl (7, 0))), .inl a1, .inl a2, .inl a3] [] h := by
  intro n
  induction n with
  | zero =>
    intro a1 a2 a3 h q
    have q9 : (none : Option (Int32 × HP)) = some r := q
    cases q9
  | succ n ih =>
    intro a1 a2 a3 h q
    exact am_run_ok CX ok_X7_openTo (K := [(4, pk_X7_openTo_4 (g_X7_openTo_4 n))]) (am_K1 (Wp := am_W p l e R s m args below meth c cells slots G 4 (Q r)) (pk_X7_openTo_4_ok (Wp := am_W p l e R s m args below meth c cells slots G 4 (Q r) 4) ih) am_K0) 32 4 _ _ _ q
set_option maxRecDepth 20000 in
theorem b_X7_openTo (l : Launch) (G : AG) : am_B l G 4 cX7_openTo RX7 am_tb P_X7_openTo am_rI fl_X7_openTo := by
  intro p e R s m args below meth c cells slots Q CX as h r q
  unfold fl_X7_openTo at q
  split at q
  · exact am_run_ok CX ok_X7_openTo (K := [(4, pk_X7_openTo_4 (g_X7_openTo_4 am_fu))]) (am_K1 (Wp := am_W p l e R s m args below meth c cells slots G 4 (Q r)) (pk_X7_openTo_4_ok (Wp := am_W p l e R s m args below meth c cells slots G 4 (Q r) 4) (w_X7_openTo_4 CX am_fu)) am_K0) 7 0 _ _ _ q
  · cases q
theorem s_X7_openTo : ∀ as h x, fl_X7_openTo as h = some x → (∀ k, (some 7 : Option Nat) = some k → ∃ (j : Nat) (as' : List AV), as = .inr (.inr (.inl (k, j))) :: as') ∧ (am_l0 as).length ≤ 4 := by
  intro as h x q
  unfold fl_X7_openTo at q
  split at q
  · exact ⟨fun k e => by cases e; exact ⟨_, _, rfl⟩, Nat.le_of_ble_eq_true rfl⟩
  · cases q
theorem M_X7_openTo (l : Launch) (G : AG) : am_M l G yX7_openTo cX7_openTo 4 (some .int) 5 112 (some 7) F_X7_openTo := am_M_of (f := fl_X7_openTo) (toR := fun x => (some (.inl x.1), x.2)) (P := P_X7_openTo) (Rr := am_rI) (own := RX7) (by decide) rfl (fun _ _ => rfl) s_X7_openTo am_wrI am_rkI pf_RX7 pk_RX7 ps_RX7 (List.forall_mem_cons.mpr ⟨cv_RX7_46 l G (by decide) (by decide), (List.forall_mem_cons.mpr ⟨cv_RX7_93 l G (by decide) (by decide), (List.forall_mem_cons.mpr ⟨cv_RX7_108 l G (by decide) (by decide), (fun _ q => by cases q)⟩)⟩)⟩) (fun _ q => by cases q) (fun _ q => by cases q) (b_X7_openTo l G)
theorem cv_RX7_111 (l : Launch) (G : AG) {fr lo : Nat} (h1 : 1 + 1 ≤ fr) (h2 : 8 + (2 + 11) + 22 ≤ lo) : am_cvOK l G RX7 fr lo (111, 2, F_X7_isMember) := ⟨yX7_isMember, cX7_isMember, 2, (some .boolean), 1, 22, 7, RX7, M_X7_isMember l G, ⟨(am_tb_mem (wd_19 _ (List.mem_of_getElem? (i := 22) rfl))), (am_tb_mem (wd_19 _ (List.mem_of_getElem? (i := 23) rfl))), (am_tb_mem (wd_0 _ (List.mem_of_getElem? (i := 26) rfl))), (am_tb_mem (wd_1 _ (List.mem_of_getElem? (i := 26) rfl))), (am_tb_mem (wd_19 _ (List.mem_of_getElem? (i := 24) rfl)))⟩, ⟨rfl, by decide, by decide, by decide +kernel⟩, Or.inl ⟨by decide, rfl⟩, h1, h2⟩
theorem cv_RX7_114 (l : Launch) (G : AG) {fr lo : Nat} (h1 : 1 + 1 ≤ fr) (h2 : 8 + (4 + 11) + 22 ≤ lo) : am_cvOK l G RX7 fr lo (114, 2, F_X7_holds) := ⟨yX7_holds, cX7_holds, 4, (some .int), 1, 22, 7, RX7, M_X7_holds l G, ⟨(am_tb_mem (wd_19 _ (List.mem_of_getElem? (i := 28) rfl))), (am_tb_mem (wd_19 _ (List.mem_of_getElem? (i := 29) rfl))), (am_tb_mem (wd_0 _ (List.mem_of_getElem? (i := 28) rfl))), (am_tb_mem (wd_1 _ (List.mem_of_getElem? (i := 26) rfl))), (am_tb_mem (wd_19 _ (List.mem_of_getElem? (i := 30) rfl)))⟩, ⟨rfl, by decide, by decide, by decide +kernel⟩, Or.inl ⟨by decide, rfl⟩, h1, h2⟩
theorem cv_RX7_117 (l : Launch) (G : AG) {fr lo : Nat} (h1 : 5 + 1 ≤ fr) (h2 : 8 + (4 + 11) + 112 ≤ lo) : am_cvOK l G RX7 fr lo (117, 2, F_X7_openTo) := ⟨yX7_openTo, cX7_openTo, 4, (some .int), 5, 112, 7, RX7, M_X7_openTo l G, ⟨(am_tb_mem (wd_19 _ (List.mem_of_getElem? (i := 31) rfl))), (am_tb_mem (wd_19 _ (List.mem_of_getElem? (i := 32) rfl))), (am_tb_mem (wd_0 _ (List.mem_of_getElem? (i := 29) rfl))), (am_tb_mem (wd_1 _ (List.mem_of_getElem? (i := 26) rfl))), (am_tb_mem (wd_19 _ (List.mem_of_getElem? (i := 33) rfl)))⟩, ⟨rfl, by decide, by decide, by decide +kernel⟩, Or.inl ⟨by decide, rfl⟩, h1, h2⟩
def C_X7_about : List AC := [(0, .aload_n 0, 1, []), (1, .iload_n 1, 2, []), (2, .invokevirtual 111, 5, []), (5, .ifCond .eq 12, 8, [17]), (8, .iload_n 2, 9, []), (9, .iconst 0, 10, []), (10, .iconst 3, 11, []), (11, .invokestatic 42, 14, []), (14, .ifCond .ne 10, 17, [24]), (17, .aload_n 0, 18, []), (18, .ldc 41, 20, []), (20, .invokevirtual 78, 23, []), (23, .ireturn, 24, []), (24, .iload_n 2, 25, []), (25, .iconst 2, 26, []), (26, .if_icmp .ge 12, 29, [38]), (29, .aload_n 0, 30, []), (30, .iload_n 1, 31, []), (31, .iload_n 2, 32, []), (32, .invokevirtual 108, 35, []), (35, .goto 21, 38, [56]), (38, .iload_n 2, 39, []), (39, .iconst 2, 40, []), (40, .if_icmp .ne 11, 43, [51]), (43, .aload_n 0, 44, []), (44, .iload_n 1, 45, []), (45, .invokevirtual 114, 48, []), (48, .goto 8, 51, [56]), (51, .aload_n 0, 52, []), (52, .iload_n 1, 53, []), (53, .invokevirtual 117, 56, []), (56, .ireturn, 57, [])]
theorem ok_X7_about : ∀ x ∈ C_X7_about, am_ok cX7_about 3 x = true := by decide +kernel
noncomputable def P_X7_about : AP := (PF_RX7, PK_RX7, PS_RX7, [(78, 2, F_X7_finds), (108, 3, F_X7_whose), (111, 2, F_X7_isMember), (114, 2, F_X7_holds), (117, 2, F_X7_openTo)], [(42, 3, F_X7_in)], [])
noncomputable def g_X7_about_17  (h : HP) : Option (Int32 × HP) := (f_X7_finds ((-1000000001)) h).bind (fun q_1 => some (q_1.1, q_1.2))
def pk_X7_about_17 (k : HP → Option (Int32 × HP)) : List AV → List AV → HP → Option (Int32 × HP) := fun L st h => match L, st with
  | [.inr (.inr (.inl (7, 0))), .inl _, .inl _], [] => k h
  | _, _ => none
theorem pk_X7_about_17_ok {Wp : List AV → List AV → HP → Prop} {r : (Int32 × HP)} {k : HP → Option (Int32 × HP)} (hk : ∀ (w1 : Int32) (w2 : Int32) (h : HP), k h = some r → Wp [.inr (.inr (.inl (7, 0))), .inl w1, .inl w2] [] h) : ∀ L st h, pk_X7_about_17 k L st h = some r → Wp L st h := by
  intro L st h q
  unfold pk_X7_about_17 at q
  split at q
  · exact hk _ _ _ q
  · cases q
noncomputable def f_X7_about (a1 : Int32) (a2 : Int32) (h : HP) : Option (Int32 × HP) := (f_X7_isMember a1 h).bind (fun q_1 => if q_1.1 = (0 : Int32) then (g_X7_about_17 q_1.2) else ((f_X7_in a2 0 3 q_1.2).bind (fun q_2 => if q_2.1 = (0 : Int32) then (g_X7_about_17 q_2.2) else (if (2 : Int32) ≤ a2 then (if a2 = (2 : Int32) then ((f_X7_holds a1 q_2.2).bind (fun q_4 => some (q_4.1, q_4.2))) else ((f_X7_openTo a1 q_2.2).bind (fun q_3 => some (q_3.1, q_3.2)))) else ((f_X7_whose a1 a2 q_2.2).bind (fun q_5 => some (q_5.1, q_5.2)))))))
noncomputable def fl_X7_about : List AV → HP → Option (Int32 × HP) := fun as h => match as with
  | [.inr (.inr (.inl (7, 0))), .inl a1, .inl a2] => f_X7_about a1 a2 h
  | _ => none
noncomputable def F_X7_about : AF := .inl fl_X7_about
set_option maxRecDepth 20000 in
theorem w_X7_about_17 {p : Program} {l : Launch} {e : Env} {R : Room} {s : State} {m : MethodId} {args : Array Value} {below : List Frame} {meth : Method} {c : Code} {cells slots : Nat} {G : AG} {Q : (Int32 × HP) → State → Prop} (CX : am_X p l e R s m args below meth c cells slots G 3 cX7_about RX7 am_tb P_X7_about am_rI Q) {r : (Int32 × HP)} : ∀ (w1 : Int32) (w2 : Int32) (h : HP), g_X7_about_17 h = some r → am_W p l e R s m args below meth c cells slots G 3 (Q r) 17 [.inr (.inr (.inl (7, 0))), .inl w1, .inl w2] [] h := by
  intro w1 w2 h q
  exact am_run_ok CX ok_X7_about (K := []) (am_K0 (Wp := am_W p l e R s m args below meth c cells slots G 3 (Q r))) 7 17 _ _ _ q
set_option maxRecDepth 20000 in
theorem b_X7_about (l : Launch) (G : AG) : am_B l G 3 cX7_about RX7 am_tb P_X7_about am_rI fl_X7_about := by
  intro p e R s m args below meth c cells slots Q CX as h r q
  unfold fl_X7_about at q
  split at q
  · exact am_run_ok CX ok_X7_about (K := [(17, pk_X7_about_17 (g_X7_about_17))]) (am_K1 (Wp := am_W p l e R s m args below meth c cells slots G 3 (Q r)) (pk_X7_about_17_ok (Wp := am_W p l e R s m args below meth c cells slots G 3 (Q r) 17) (w_X7_about_17 CX)) am_K0) 23 0 _ _ _ q
  · cases q
theorem s_X7_about : ∀ as h x, fl_X7_about as h = some x → (∀ k, (some 7 : Option Nat) = some k → ∃ (j : Nat) (as' : List AV), as = .inr (.inr (.inl (k, j))) :: as') ∧ (am_l0 as).length ≤ 3 := by
  intro as h x q
  unfold fl_X7_about at q
  split at q
  · exact ⟨fun k e => by cases e; exact ⟨_, _, rfl⟩, Nat.le_of_ble_eq_true rfl⟩
  · cases q
theorem M_X7_about (l : Launch) (G : AG) : am_M l G yX7_about cX7_about 3 (some .int) 6 135 (some 7) F_X7_about := am_M_of (f := fl_X7_about) (toR := fun x => (some (.inl x.1), x.2)) (P := P_X7_about) (Rr := am_rI) (own := RX7) (by decide) rfl (fun _ _ => rfl) s_X7_about am_wrI am_rkI pf_RX7 pk_RX7 ps_RX7 (List.forall_mem_cons.mpr ⟨cv_RX7_78 l G (by decide) (by decide), (List.forall_mem_cons.mpr ⟨cv_RX7_108 l G (by decide) (by decide), (List.forall_mem_cons.mpr ⟨cv_RX7_111 l G (by decide) (by decide), (List.forall_mem_cons.mpr ⟨cv_RX7_114 l G (by decide) (by decide), (List.forall_mem_cons.mpr ⟨cv_RX7_117 l G (by decide) (by decide), (fun _ q => by cases q)⟩)⟩)⟩)⟩)⟩) (List.forall_mem_cons.mpr ⟨cs_RX7_42 l G (by decide) (by decide), (fun _ q => by cases q)⟩) (fun _ q => by cases q) (b_X7_about l G)
