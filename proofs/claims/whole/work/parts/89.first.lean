/-! the fresh objects -/
theorem m0_z {k : Nat} (h1 : k ≠ 33) (h2 : k ≠ 26) (h3 : k ≠ 1023) (h4 : k ≠ 1030) (j : Nat) : ct_m0.1 k j = 0 := by
  rw [ct_m0_row h1 h2 h3 h4]; rfl
theorem m0_33 (j : Nat) : ct_m0.1 33 j = if j = 2 then 1 else 0 := by
  unfold ct_m0
  rw [ct_st_ne (by decide), ct_st_ne (by decide), ct_st_ne (by decide), ct_st_eq]
  rfl
theorem m0_26 (j : Nat) : ct_m0.1 26 j = if j = 3 then 1 else 0 := by
  unfold ct_m0
  rw [ct_st_ne (by decide), ct_st_ne (by decide), ct_st_eq, ct_st_ne (by decide)]
  rfl
theorem m0_1023 (j : Nat) : ct_m0.1 1023 j = if j = 4 then 1 else 0 := by
  unfold ct_m0
  rw [ct_st_ne (by decide), ct_st_eq, ct_st_ne (by decide), ct_st_ne (by decide)]
  rfl
theorem m0_1030 (j : Nat) : ct_m0.1 1030 j = if j = 72 then 1 else 0 := by
  unfold ct_m0
  rw [ct_st_eq, ct_st_ne (by decide), ct_st_ne (by decide), ct_st_ne (by decide)]
  rfl
theorem okC0 : ct_okC 0 := ⟨rfl, rfl⟩
theorem INV_first : INV 0 ct_m0 := by
  have z30 : ∀ j, j ≠ 72 → ct_m0.1 1030 j = 0 := fun j hj => by rw [m0_1030, if_neg hj]
  have hps : PSs (fun _ _ => 0) 1 (fun _ => 0) (fun _ _ => 0) := fun t _ => ⟨(by decide : (0 : Nat) < 60), rfl, fun q hq => absurd hq (Nat.not_lt_zero q), rfl, fun _ _ => Nat.zero_le 3, fun p hp => absurd hp (Nat.not_lt_zero p)⟩
  have kz : ∀ k, (k < 26 ∨ (78 ≤ k ∧ k < 1023) ∨ (1023 < k ∧ k ≠ 1030)) → ∀ j, ct_m0.1 k j = 0 := fun k hk j => m0_z (by omega) (by omega) (by omega) (by omega) j
  refine ⟨fun b hb t ht k hk => ?_, ⟨0, by omega, kz 1 (by omega) 1, by rw [m0_1023]; rfl, fun k hk => absurd hk (by omega)⟩, ⟨0, 0, by omega, by omega, kz 8 (by omega) 2, kz 8 (by omega) 3, by rw [m0_1023]; rfl, fun i hi => absurd hi (by omega)⟩, (fun _ _ => 0), 1, (fun _ => 0), (fun _ _ => 0), ⟨by omega, by omega, fun k k1 k2 => ?_, by rw [m0_1023]; rfl, hps, fun s hs => ⟨kz _ (by omega) 3, fun k hk => absurd hk (Nat.not_lt_zero k)⟩, ⟨⟨fun c hc => ?_, fun c hc => ?_⟩, by rw [m0_26]; rfl, ⟨?_, 0, ⟨?_, by omega, fun k hk => absurd hk (by omega)⟩, fun k hk => absurd hk (by omega)⟩, fun t ht => ?_⟩, ⟨fun c hc => ?_, fun c hc => ?_, ⟨0, ?_, by omega, fun k hk => absurd hk (by omega)⟩, fun t ht => ?_, fun u u1 u2 => z30 _ (by unfold rAt; omega)⟩⟩, ⟨0, 0, by omega, by omega, kz 78 (by omega) 1, kz 78 (by omega) 2, by rw [m0_1023]; rfl, fun i hi => absurd hi (by omega)⟩, fun s hs => Or.inl ⟨kz 7 (by omega) s, kz 1034 (by omega) s⟩⟩
  · obtain ⟨b1, b2⟩ := K10_bound hb
    have z : ∀ j, ct_m0.1 (b + 7 + 15 * t + 6 + 3 * k) j = 0 := fun j => by
      refine m0_z ?_ (by omega) (by omega) (by omega) j
      intro e
      have h1 := ct_all (fun a => !(ct_kd a == 10) || (a == 26 || decide (80 ≤ a))) (by decide +kernel) hb.1
      simp only [hb.2, beq_self_eq_true, Bool.not_true, Bool.false_or, Bool.or_eq_true, decide_eq_true_eq, beq_iff_eq] at h1
      omega
    exact ⟨by rw [z]; exact okC0, by rw [z]; exact okZ0⟩
  · funext j; exact kz k (by omega) j
  · rw [m0_z (by omega) (by omega) (by omega) (by omega), z30 _ (by omega)]
  · rw [m0_z (by omega) (by omega) (by omega) (by omega), z30 _ (by omega)]
  · rw [m0_26, z30 _ (by omega)]; rfl
  · exact z30 _ (by omega)
  · have : t = 0 := by omega
    subst this
    have r0 : rAt 0 = 25 := rfl
    refine ⟨⟨?_, ?_, ?_, ?_, ?_, ?_⟩, ⟨⟨0, by omega, m0_z (by omega) (by omega) (by omega) (by omega) _⟩, fun c hc => ?_⟩, ⟨?_, fun c hc hb => ?_⟩, fun k hk => ?_⟩
    · rw [show 26 + 7 + 15 * 0 = 33 from rfl, m0_33, r0, z30 _ (by omega)]; rfl
    · rw [show 26 + 7 + 15 * 0 = 33 from rfl, m0_33, r0, m0_1030]; rfl
    · rw [show 26 + 7 + 15 * 0 = 33 from rfl, m0_33, r0, z30 _ (by omega)]; rfl
    · rw [show 26 + 7 + 15 * 0 = 33 from rfl, m0_33, r0, z30 _ (by omega)]; rfl
    · rw [show 26 + 7 + 15 * 0 = 33 from rfl, m0_33, r0, z30 _ (by omega)]; rfl
    · rw [show 26 + 7 + 15 * 0 = 33 from rfl, m0_33, r0, z30 _ (by omega)]; rfl
    · rw [m0_z (by omega) (by omega) (by omega) (by omega), z30 _ (by omega)]
      exact ⟨⟨fun hb => absurd hb (bit0 c hc), fun hb => absurd rfl hb⟩, fun hb => absurd rfl hb⟩
    · rw [m0_z (by omega) (by omega) (by omega) (by omega), z30 _ (by omega)]
    · rw [z30 _ (by omega)] at hb
      exact absurd hb (bit0 c hc)
    · rw [z30 _ (by omega)] at hk
      exact absurd hk (by rw [show Int32.toNatClampNeg 0 = 0 from rfl]; omega)
  · rw [z30 _ (by omega)]; exact V0
  · exact ⟨0, by omega, z30 _ (by omega)⟩
  · exact z30 _ (by omega)
  · have : t = 0 := by omega
    subst this
    refine TW_zero (hps 0 (by omega)) (fun j j1 j2 => z30 _ (by unfold rAt; omega)) ⟨1, by omega, by rw [m0_1030]; rfl, Or.inl ⟨z30 _ (by unfold rAt; omega), by omega⟩⟩
