/-! the reference's parser: a digit -/
theorem r_number {L p lo hi : Nat} {x : Nat → Nat} {Q : Int32 → ct_M → Prop} {m : ct_M} (hL : L ≤ 60) (hp : p ≤ 60) (hlo : lo < 10) (hhi : hi < 10) (h2 : m.1 1023 2 = nI L) (h3 : m.1 1023 3 = nI p) (hx : ∀ k, k < L → x k < 256 ∧ m.1 1024 k = nI (x k))
    (h1 : p < L → 48 + lo ≤ x p → x p ≤ 48 + hi → Q (nI (x p - 48)) (ct_st m 1023 3 (nI (p + 1)))) (h0 : ¬ (p < L ∧ 48 + lo ≤ x p ∧ x p ≤ 48 + hi) → Q (-9) m) : wp_X12_number 1023 (nI lo) (nI hi) Q m := by
  have l24 : ct_ln (1023 + 1) = 60 := by decide
  have tl : (nI lo).toInt64.toInt = lo := by rw [Int32.toInt_toInt64, nI_toInt (by omega)]
  have th : (nI hi).toInt64.toInt = hi := by rw [Int32.toInt_toInt64, nI_toInt (by omega)]
  unfold wp_X12_number
  rw [h2, h3]
  refine ⟨fun z => ?_, fun z => ?_⟩
  · have hpL := (cmp_le (by omega) (by omega)).mp z
    unfold wb_X12_number_28
    refine r_in (fun a b => ?_) (fun _ => ⟨fun w => absurd rfl w, fun _ => h0 (by omega)⟩)
    exfalso
    rw [tl] at a
    have : (-9 : Int32).toInt64.toInt = -9 := rfl
    omega
  · have hpL : p < L := by
      refine Nat.lt_of_not_le fun w => z ((cmp_le (by omega) (by omega)).mpr w)
    obtain ⟨x1, x2⟩ := hx p hpL
    have ev : (nI (x p) - (48 : Int32)).toInt = (x p : Int) - 48 := by
      rw [Int32.toInt_sub, nI_toInt (by omega), show (48 : Int32).toInt = 48 from rfl]
      exact Int.bmod_eq_of_le (by omega) (by omega)
    simp (disch := omega) only [vp_nI, cl, l24]
    rw [show 1023 + 1 = 1024 from rfl, x2]
    refine ⟨by omega, ?_⟩
    unfold wb_X12_number_28
    refine r_in (fun a b => ⟨fun _ => ?_, fun w => absurd w (by decide)⟩) (fun a => ⟨fun w => absurd rfl w, fun _ => h0 fun w => a ?_⟩)
    · rw [tl, Int32.toInt_toInt64, ev] at a
      rw [th, Int32.toInt_toInt64, ev] at b
      intro m4 e4
      rw [h3, nI_ofNat 1, nI_add] at e4
      have e5 : nI (x p) - (48 : Int32) = nI (x p - 48) := by
        apply Int32.toInt_inj.mp
        rw [ev, nI_toInt (by omega)]
        omega
      rw [e5, e4]
      exact h1 hpL (by omega) (by omega)
    · rw [tl, th, Int32.toInt_toInt64, ev]
      omega
