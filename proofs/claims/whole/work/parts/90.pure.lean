/-! the law from its calls -/
theorem L4 {L : Nat} (hL : L ≤ 2048) : (Int32.ofNat L - (4 : Int32)).toInt = (L : Int) - 4 := by
  rw [Int32.toInt_sub, show (4 : Int32).toInt = 4 from rfl, show (Int32.ofNat L).toInt = (L : Int) from nI_toInt (n := L) (by omega)]
  exact Int.bmod_eq_of_le (by omega) (by omega)
theorem law_pure {L : Nat} {xs : Nat → Int32} (hL : L ≤ 2048) : ∃ n, wb_L_law_18 xs L n 0 1023 (0 : Int32) ct_m0 := by
  have loop : ∀ (n j : Nat) (m : ct_M), j + n = L / 4 → INV (400 * j) m → wb_L_law_18 xs L (n + 1) 0 1023 (nI (4 * j)) m := by
    intro n
    induction n with
    | zero =>
      intro j m hj h
      unfold wb_L_law_18
      refine ⟨fun _ => trivial, fun e => ?_⟩
      exfalso
      apply e
      rw [Int32.lt_iff_toInt_lt, L4 hL, nI_toInt (by omega)]
      omega
    | succ n ih =>
      intro j m hj h
      have hjL : 4 * j + 4 ≤ L := by omega
      have hB : 400 * j < 2 ^ 28 := by omega
      have v0 : vp_in (nI (4 * j)) L := (vp_nI (by omega)).mpr (by omega)
      have v1 : vp_in (nI (4 * j) + (1 : Int32)) L := by rw [nI_ofNat 1, nI_add]; exact (vp_nI (by omega)).mpr (by omega)
      have v2 : vp_in (nI (4 * j) + (2 : Int32)) L := by rw [nI_ofNat 2, nI_add]; exact (vp_nI (by omega)).mpr (by omega)
      have v3 : vp_in (nI (4 * j) + (3 : Int32)) L := by rw [nI_ofNat 3, nI_add]; exact (vp_nI (by omega)).mpr (by omega)
      have hK : ∀ m', INV (400 * j + 400) m' → wb_L_law_841 xs L (wb_L_law_18 xs L (n + 1)) 0 1023 (nI (4 * j)) m' := by
        intro m' h'
        unfold wb_L_law_841
        intro x hx
        rw [hx, nI_ofNat 4, nI_add]
        exact ih (j + 1) m' (by omega) (h'.mono (by omega))
      unfold wb_L_law_18
      refine ⟨fun _ => trivial, fun _ => ⟨v0, ?_⟩⟩
      refine ⟨fun _ => ⟨v1, k_append h v1 hK⟩, fun _ => ?_⟩
      refine ⟨fun _ => k_clearText h hK, fun _ => ?_⟩
      refine ⟨fun _ => k_errorPosition h hB hK, fun _ => ?_⟩
      refine ⟨fun _ => k_load h hB hK, fun _ => ?_⟩
      refine ⟨fun _ => ⟨v1, k_value h v1 hK⟩, fun _ => ?_⟩
      refine ⟨fun _ => ⟨v1, k_version h v1 hK⟩, fun _ => ?_⟩
      refine ⟨fun _ => k_threadCount h hK, fun _ => ?_⟩
      refine ⟨fun _ => ⟨v1, k_state h v1 hK⟩, fun _ => ?_⟩
      refine ⟨fun _ => ⟨v1, k_position h v1 hK⟩, fun _ => ?_⟩
      refine ⟨fun _ => ⟨v1, k_accumulator h v1 hK⟩, fun _ => ?_⟩
      refine ⟨fun _ => ⟨v1, v2, k_seenValue h v1 v2 hK⟩, fun _ => ?_⟩
      refine ⟨fun _ => ⟨v1, k_readSet h v1 hK⟩, fun _ => ?_⟩
      refine ⟨fun _ => ⟨v1, k_writeSet h v1 hK⟩, fun _ => ?_⟩
      refine ⟨fun _ => ⟨v1, k_openBlocks h v1 hK⟩, fun _ => ?_⟩
      refine ⟨fun _ => ⟨v1, k_runsLeft h v1 hK⟩, fun _ => ?_⟩
      refine ⟨fun _ => ⟨v1, k_restarts h v1 hK⟩, fun _ => ?_⟩
      refine ⟨fun _ => ⟨v1, k_step h hB v1 hK⟩, fun _ => ?_⟩
      refine ⟨fun _ => ⟨v1, k_run h hB v1 hK⟩, fun _ => ?_⟩
      refine ⟨fun _ => ⟨v1, v2, k_setCell h v1 v2 hK⟩, fun _ => ?_⟩
      refine ⟨fun _ => ⟨v1, v2, v3, k_addInvariant h v1 v2 v3 hK⟩, fun _ => ?_⟩
      refine ⟨fun _ => k_undo h hK, fun _ => ?_⟩
      refine ⟨fun _ => k_outcomeCount h hB hK, fun _ => ?_⟩
      refine ⟨fun _ => k_possibleOutcomes h hB hK, fun _ => ?_⟩
      refine ⟨fun _ => k_canDeadlock h hB hK, fun _ => ?_⟩
      refine ⟨fun _ => ⟨v1, k_greatestOutcome h hB v1 hK⟩, fun _ => ?_⟩
      refine ⟨fun _ => ⟨v1, v2, v3, k_runScript h hB v1 v2 v3 hK⟩, fun _ => ?_⟩
      refine ⟨fun _ => ⟨v1, v2, k_observe h v1 v2 hK⟩, fun _ => ?_⟩
      refine ⟨fun _ => ⟨v1, k_save h v1 hK⟩, fun _ => ?_⟩
      refine ⟨fun _ => ⟨v1, k_restore h v1 hK⟩, fun _ => ?_⟩
      exact hK m (h.mono (by omega))
  have := loop (L / 4) 0 ct_m0 (by omega) (INV_first.mono (by omega))
  exact ⟨L / 4 + 1, this⟩
