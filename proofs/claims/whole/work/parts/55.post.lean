/-! PURE: one turn more -/
def sBit (S : Int32) (r : Nat) : Bool := decide ((S >>> (nI r &&& 31)) &&& 1 = 1)
def tT (N : Nat → Int32) (S : Int32) (i r : Nat) (a : Int32) : Int32 := if (sBit S r && sOpens N i (nI r)) = true then a ||| (1 <<< (sLead N i (nI r) &&& 31)) else a
def hT (N : Nat → Int32) (p S : Int32) (i : Nat) (a : Int32) : Int32 := if hd N i 4 = p then fo (tT N S i) 16 0 a else a
/-- a, and where p comes to by one turn from S -/
def pT (N : Nat → Int32) (n : Nat) (p S a : Int32) : Int32 := fo (hT N p S) n 0 a
theorem bit01 (x : Int32) : x &&& 1 = 0 ↔ ¬ x &&& 1 = 1 := by
  have e := pk_and x (m := 1) 1 (by decide)
  rw [e]
  rcases Nat.mod_two_eq_zero_or_one x.toBitVec.toNat with q | q
  · rw [show x.toBitVec.toNat % 2 ^ 1 = 0 from q]
    decide
  · rw [show x.toBitVec.toNat % 2 ^ 1 = 1 from q]
    decide
section POST
variable {h : HP} {N : Nat → Int32} {n m d l : Nat}
theorem oneMore_r (hW : WF (rv h) n m d l) (p S : Int32) : f_X7_oneMore p S h = some (pT (rv h) n p S S, h) := by
  obtain ⟨w1, w2, w3, w4, w5, w6, w7, w8, w9, w10⟩ := hW
  unfold f_X7_oneMore pT
  refine lp_up (g := fun k a x => g_X7_oneMore_5 k p S a x h) (N := n) (fin := fun a => some (a, h)) (fun k i a hi => ?_) (fun k a => ?_) n am_fu 0 S (by omega) (fu_lt (by omega))
  · show g_X7_oneMore_5 (k + 1) p S a (nI i) h = g_X7_oneMore_5 k p S (hT (rv h) p S i a) (nI (i + 1)) h
    rw [g_X7_oneMore_5, ix64_2]
    show (if h_rI h 13 0 2 ≤ nI i then _ else _) = _
    rw [rv_2, w7, if_neg (nI_le_i (by omega) (by omega) hi)]
    have h8 : i < 8 := by omega
    have hwh := w9 i hi
    unfold hT
    by_cases q : hd (rv h) i 4 = p
    · rw [if_pos q]
      refine (lp_up (g := fun k' a x => g_X7_oneMore_19 (g_X7_oneMore_5 k) k' p S a (nI i) x h) (N := 16) (step := tT (rv h) S i) (fin := fun a => g_X7_oneMore_5 k p S a (nI i + 1) h) (fun k' r a hr => ?_) (fun k' a => ?_) 16 am_fu 0 a (by decide) (fu_lt (by decide))).trans ?_
      · show g_X7_oneMore_19 (g_X7_oneMore_5 k) (k' + 1) p S a (nI i) (nI r) h = _
        rw [g_X7_oneMore_19, if_neg (show ¬ (16 : Int32) ≤ nI r from nI_le_i (n := 16) (by omega) (by decide) hr), its4 h8, Option.bind_some, if_pos q, nI_1, or0]
        unfold tT sBit
        by_cases b : (S >>> (nI r &&& 31)) &&& 1 = 1
        · rw [if_pos b, decide_eq_true b, Bool.true_and, opens_r (h := h) (i := i) h8 w2 hwh]
          show (if b2i _ = 0 then _ else _) = _
          rw [b2i_c, leadsTo_r (h := h) (i := i) h8 w2 hwh]
          by_cases o : sOpens (rv h) i (nI r) = true
          · rw [if_pos o, if_pos o]
            rfl
          · rw [if_neg o, if_neg o]
        · rw [if_neg b, decide_eq_false b]
          rfl
      · rfl
      · rw [nI_1]
    · rw [if_neg q]
      rw [show am_fu = 999 + 1 from am_fu_eq, g_X7_oneMore_19, if_neg (by decide), its4 h8, Option.bind_some, if_neg q, nI_1]
  · show g_X7_oneMore_5 (k + 1) p S a (nI n) h = _
    rw [g_X7_oneMore_5, ix64_2]
    show (if h_rI h 13 0 2 ≤ nI n then _ else _) = _
    rw [rv_2, w7, if_pos nI_le_n]
theorem oneTurn_c {j : Nat} (hW : WF N n m d l) (hL : LC h j n m N) (p S : Int32) : f_X1_oneTurnFrom j p S h = some (pT N n p S 0, h) := by
  obtain ⟨w1, w2, w3, w4, w5, w6, w7, w8, w9, w10⟩ := hW
  have e3 : h.1.1 1 j 3 = nI n := hL.2.2.1.trans w7
  unfold f_X1_oneTurnFrom pT
  refine lp_up (g := fun k a x => g_X1_oneTurnFrom_5 k j p S a x h) (N := n) (fin := fun a => some (a, h)) (fun k i a hi => ?_) (fun k a => ?_) n am_fu 0 0 (by omega) (fu_lt (by omega))
  · show g_X1_oneTurnFrom_5 (k + 1) j p S a (nI i) h = g_X1_oneTurnFrom_5 k j p S (hT N p S i a) (nI (i + 1)) h
    have h8 : i < 8 := by omega
    have hwh := w9 i hi
    have hh := hL.hd hi
    rw [g_X1_oneTurnFrom_5, rI_1, e3, if_neg (nI_le_i (by omega) (by omega) hi), ix8 h8, Option.bind_some]
    unfold hT
    by_cases q : hd N i 4 = p
    · rw [if_pos q]
      refine (lp_up (g := fun k' a x => g_X1_oneTurnFrom_26 (g_X1_oneTurnFrom_5 k) k' j p S a (nI i) (8 * j + i) x h) (N := 16) (step := tT N S i) (fin := fun a => g_X1_oneTurnFrom_5 k j p S a (nI i + 1) h) (fun k' r a hr => ?_) (fun k' a => ?_) 16 am_fu 0 a (by decide) (fu_lt (by decide))).trans ?_
      · show g_X1_oneTurnFrom_26 (g_X1_oneTurnFrom_5 k) (k' + 1) j p S a (nI i) (8 * j + i) (nI r) h = _
        rw [g_X1_oneTurnFrom_26, if_neg (show ¬ (16 : Int32) ≤ nI r from nI_le_i (n := 16) (by omega) (by decide) hr), rI_0, hh 4 (by decide), if_pos q, nI_1]
        unfold tT sBit
        by_cases b : (S >>> (nI r &&& 31)) &&& 1 = 1
        · rw [if_neg (fun z => (bit01 _).mp z b), decide_eq_true b, Bool.true_and, rI_1, rI_1, hL.1, hL.2.1, opens_c hh hwh]
          show (if b2i _ = 0 then _ else (f_X0_ledTo (8 * j + i) (nI r) (h.1.1 1 j 1) h).bind _) = _
          rw [b2i_c, hL.2.1, ledTo_c hh hwh]
          by_cases o : sOpens N i (nI r) = true
          · rw [if_pos o, if_pos o]
            rfl
          · rw [if_neg o, if_neg o]
        · rw [if_pos ((bit01 _).mpr b), decide_eq_false b]
          rfl
      · rfl
      · rw [nI_1]
    · rw [if_neg q]
      rw [show am_fu = 999 + 1 from am_fu_eq, g_X1_oneTurnFrom_26, if_neg (by decide), rI_0, hh 4 (by decide), if_neg q, nI_1]
  · show g_X1_oneTurnFrom_5 (k + 1) j p S a (nI n) h = _
    rw [g_X1_oneTurnFrom_5, rI_1, e3, if_pos nI_le_n]
end POST
