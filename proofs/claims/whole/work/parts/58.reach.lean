/-! PURE: reach, the reference's -/
section REACH
variable {h : HP} {n m d l : Nat}
theorem reach_lp (hW : WF (rv h) n m d l) {p : Int32} {s K : Nat} (hs : s < 16) (hK : sq (rv h) n p s (K + 1) = sq (rv h) n p s K) (hno : ∀ k, k < K → ¬ sq (rv h) n p s (k + 1) = sq (rv h) n p s k) : ∀ (j f k : Nat), k + j = K → j < f → g_X7_reachOf_16 f p (nI (sq (rv h) n p s k)) (nI (sq (rv h) n p s (k + 1))) h = some (nI (sq (rv h) n p s K), h)
  | 0, f, k, h1, h2 => by
    obtain ⟨f, rfl⟩ : ∃ z, f = z + 1 := ⟨f - 1, by omega⟩
    have : k = K := by omega
    subst this
    rw [g_X7_reachOf_16, hK, if_pos rfl]
  | j + 1, f, k, h1, h2 => by
    obtain ⟨f, rfl⟩ : ∃ z, f = z + 1 := ⟨f - 1, by omega⟩
    have l1 := sq_lt (p := p) hW hs k
    have l2 := sq_lt (p := p) hW hs (k + 1)
    rw [g_X7_reachOf_16, if_neg (nI_ne (by omega) (by omega) (hno k (by omega))), oneMore_r hW, (pT_nI hW p l2 l2).1, Option.bind_some]
    exact reach_lp hW hs hK hno j f (k + 1) (by omega) (by omega)
theorem reachOf_r (hW : WF (rv h) n m d l) {p s : Nat} (hp : p < 6) (hs : s < 16) (e : mb (rv h) p 0 = nI s) : f_X7_reachOf (nI p) h = some (nI (sq (rv h) n (nI p) s 15), h) := by
  obtain ⟨K, k1, k2, k3⟩ := sq_still (p := nI p) hW hs
  have e15 : sq (rv h) n (nI p) s 15 = sq (rv h) n (nI p) s K := by
    have := sq_fix k2 (15 - K)
    rw [show K + (15 - K) = 15 by omega] at this
    exact this
  have l0 := sq_lt (p := nI p) hW hs 0
  unfold f_X7_reachOf
  rw [whose0 hp, e, Option.bind_some, bit_nI s hs, oneMore_r hW, (pT_nI hW (nI p) (A := 2 ^ s) (a := 2 ^ s) l0 l0).1, Option.bind_some, e15]
  exact reach_lp hW hs k2 k3 K am_fu 0 (by omega) (fu_lt (by omega))
end REACH
