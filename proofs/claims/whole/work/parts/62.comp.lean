/-! PURE: days after days -/
section COMP
variable {N : Nat → Int32} {n m d l : Nat}
theorem mkR_mkR {dd dd' : Nat} {o f o' f' : Nat → Nat} : mkR (mkR N n m dd o f) n m dd' o' f' = mkR N n m dd' o' f' := by
  funext q
  unfold mkR
  by_cases h0 : q = 0
  · simp only [if_pos h0]
  by_cases h1 : 4 ≤ q ∧ q < 4 + 6 * n ∧ q % 6 = 3
  · simp only [if_neg h0, if_pos h1]
  by_cases h2 : 52 ≤ q ∧ q < 52 + 2 * m ∧ q % 2 = 1
  · simp only [if_neg h0, if_neg h1, if_pos h2]
  simp only [if_neg h0, if_neg h1, if_neg h2]
theorem dayR_comp (hW : WF N n m d l) {s : Nat} (hs : s ≤ 100) : dayR (dayR N n m d l s) n m (d + s) l 1 = dayR N n m d l (s + 1) := by
  have hn8 := hW.1
  have h4 := hW.2.2.2.1
  have eo : ∀ i, i < n → oN (dayR N n m d l s) i = oS N (oN N) s i := fun i hi => by
    have ho := (oN_nI hW hi).2
    unfold dayR
    rw [oN_mk hi]
    unfold oS
    by_cases z : hd N i 4 = -1
    · rw [if_pos z]; omega
    · rw [if_neg z]; omega
  have ef : ∀ p, p < m → fN (dayR N n m d l s) p = fS N n l s (oN N) (fN N) p := fun p hp => by
    unfold dayR
    rw [fN_mk hn8 hp]
    unfold fS
    omega
  have eh : ∀ i, i < n → hd (dayR N n m d l s) i 4 = hd N i 4 := fun i hi => hd_mk (by omega) (by decide)
  show mkR (mkR N n m (d + s) _ _) n m (d + s + 1) _ _ = mkR N n m (d + (s + 1)) _ _
  rw [mkR_mkR]
  refine mkR_congr (fun i hi => ?_) (fun p hp => ?_)
  · show (if hd (dayR N n m d l s) i 4 = -1 then oN (dayR N n m d l s) i else oN (dayR N n m d l s) i + 1) = _
    rw [eh i hi, eo i hi]
    unfold oS
    by_cases z : hd N i 4 = -1
    · rw [if_pos z, if_pos z, if_pos z]
    · rw [if_neg z, if_neg z, if_neg z]
      omega
  · have e1 : due N n l s p (oN N) + due (dayR N n m d l s) n l 1 p (oN (dayR N n m d l s)) = due N n l (s + 1) p (oN N) := by
      unfold due
      rw [sm_add]
      refine sm_congr n 0 (fun i _ hi => ?_)
      rw [eh i (by omega), eo i (by omega)]
      unfold oS
      by_cases q : hd N i 4 = nI p
      · have qn : ¬ hd N i 4 = -1 := by rw [q]; exact nI_m1 (by have := hW.2.1; omega)
        rw [if_pos q, if_pos q, if_pos q, if_neg qn]
        omega
      · rw [if_neg q, if_neg q, if_neg q]
    show min 9999 (fN (dayR N n m d l s) p + due (dayR N n m d l s) n l 1 p (oN (dayR N n m d l s))) = fS N n l (s + 1) (oN N) (fN N) p
    rw [ef p hp]
    unfold fS
    rw [← e1]
    omega
end COMP
