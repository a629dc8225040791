/-- a token is put behind the others -/
def rPutTok (m : ct_M) (t n : Nat) (c d : Int32) : ct_M := ct_st (ct_st (ct_st (ct_st (ct_st m 1040 (60 * t + n) c) 1041 (60 * t + n) d) 1042 (60 * t + n) (-9)) 1043 (60 * t + n) (-9)) 1039 t (nI (n + 1))
theorem r_put {t n : Nat} {c d : Int32} {Q : ct_M → Prop} {m : ct_M} (ht : t < 3) (hn : n < 60) (h19 : m.1 1023 19 = nI t) (h39 : m.1 1039 t = nI n) (h : Q (rPutTok m t n c d)) : wp_X12_put 1023 c d Q m := by
  have l39 : ct_ln (1023 + 16) = 3 := by decide
  have l40 : ct_ln (1023 + 17) = 180 := by decide
  have l41 : ct_ln (1023 + 18) = 180 := by decide
  have l42 : ct_ln (1023 + 19) = 180 := by decide
  have l43 : ct_ln (1023 + 20) = 180 := by decide
  unfold wp_X12_put
  rw [h19]
  simp (disch := omega) only [vp_nI, cl, l39]
  rw [show m.1 (1023 + 16) t = nI n from h39]
  refine ⟨ht, ?_⟩
  intro x2 hx2
  have ex : x2 = nI (60 * t + n) := by rw [hx2, nI_ofNat 60, pk_mul, nI_add]
  rw [ex]
  simp (disch := omega) only [vp_nI, cl, l40, l41, l42, l43]
  refine ⟨by omega, ?_⟩
  intro m4 e4
  refine ⟨by omega, ?_⟩
  intro m6 e6
  refine ⟨by omega, ?_⟩
  intro m8 e8
  refine ⟨by omega, ?_⟩
  intro m10 e10
  have s19 : m10.1 1023 19 = nI t := by
    subst e10 e8 e6 e4
    rw [ct_st_ne (by decide), ct_st_ne (by decide), ct_st_ne (by decide), ct_st_ne (by decide)]; exact h19
  have s39 : m10.1 (1023 + 16) t = nI n := by
    subst e10 e8 e6 e4
    rw [ct_st_ne (by decide), ct_st_ne (by decide), ct_st_ne (by decide), ct_st_ne (by decide)]; exact h39
  rw [s19]
  simp (disch := omega) only [vp_nI, cl]
  refine ⟨ht, ht, ?_⟩
  intro m11 e11
  rw [s39, nI_ofNat 1, nI_add] at e11
  subst e11 e10 e8 e6 e4
  exact h
