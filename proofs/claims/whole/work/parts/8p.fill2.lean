/-! the class reads a whole setup -/
theorem t_shape {x : Nat → Nat} {L : Nat} {S S' : PQ} (hs : tStep L x S = some S') : S.1 < L ∧ x S.1 ≠ 46 ∧ S'.1 = S.1 + 1 + pTw (x S.1) ∧ (pTw (x S.1) = 1 → S.1 + 1 < L ∧ 48 ≤ x (S.1 + 1) ∧ S'.2.2.2.2.2 1 S.2.1 = nI (x (S.1 + 1) - 48)) ∧ (pTw (x S.1) = 0 → ((∀ i, i < S.2.2.1 → S.2.2.2.1 i < S.2.1) → (∀ j, j < S.2.1 → S.2.2.2.2.2 2 j = -9 ∨ ∃ b : Nat, b < S.2.1 ∧ S.2.2.2.2.2 2 j = nI b) → S.2.1 < 60 → S'.2.2.2.2.2 1 S.2.1 = 0)) := by
  obtain ⟨p, n, d, q, dp, W⟩ := S
  rw [tStep_def] at hs
  have hp : p < L := by
    refine Decidable.byContradiction fun hp => ?_
    rw [if_neg hp] at hs; cases hs
  rw [if_pos hp] at hs
  show p < L ∧ x p ≠ 46 ∧ S'.1 = p + 1 + pTw (x p) ∧ (pTw (x p) = 1 → p + 1 < L ∧ 48 ≤ x (p + 1) ∧ S'.2.2.2.2.2 1 n = nI (x (p + 1) - 48)) ∧ (pTw (x p) = 0 → ((∀ i, i < d → q i < n) → (∀ j, j < n → W 2 j = -9 ∨ ∃ b : Nat, b < n ∧ W 2 j = nI b) → n < 60 → S'.2.2.2.2.2 1 n = 0))
  have t1 : (x p = 114 ∨ x p = 119 ∨ x p = 43 ∨ x p = 45 ∨ x p = 63) → pTw (x p) = 1 := fun c => if_pos c
  have t0 : ¬ (x p = 114 ∨ x p = 119 ∨ x p = 43 ∨ x p = 45 ∨ x p = 63) → pTw (x p) = 0 := fun c => if_neg c
  by_cases c1 : x p = 33 ∨ x p = 120
  · rw [if_pos c1] at hs
    cases hs
    rw [t0 (by omega)]
    exact ⟨hp, by omega, rfl, fun z => absurd z (by decide), fun _ _ _ _ => pPut_1 (c := nI (x p))⟩
  · rw [if_neg c1] at hs
    by_cases c2 : x p = 40 ∨ x p = 123
    · rw [if_pos c2] at hs
      by_cases hd : d < 3
      · rw [if_pos hd] at hs
        cases hs
        rw [t0 (by omega)]
        exact ⟨hp, by omega, rfl, fun z => absurd z (by decide), fun _ _ _ _ => pPut_1 (c := nI (x p))⟩
      · rw [if_neg hd] at hs; cases hs
    · rw [if_neg c2] at hs
      by_cases c3 : x p = 124
      · rw [if_pos c3] at hs
        by_cases hc : 0 < d ∧ W 0 (q (d - 1)) = 40 ∧ W 2 (q (d - 1)) = -9
        · rw [if_pos hc] at hs
          cases hs
          rw [t0 (by omega)]
          refine ⟨hp, by omega, rfl, fun z => absurd z (by decide), fun _ _ _ _ => ?_⟩
          show wSet (pPut W n (nI (x p)) 0) 2 (q (d - 1)) (nI n) 1 n = 0
          rw [wSet_k (by decide)]; exact pPut_1
        · rw [if_neg hc] at hs; cases hs
      · rw [if_neg c3] at hs
        by_cases c4 : x p = 41
        · rw [if_pos c4] at hs
          by_cases hc : 0 < d ∧ W 0 (q (d - 1)) = 40 ∧ ¬ W 2 (q (d - 1)) = -9
          · rw [if_pos hc] at hs
            cases hs
            rw [t0 (by omega)]
            refine ⟨hp, by omega, rfl, fun z => absurd z (by decide), fun _ _ _ _ => ?_⟩
            show wSet (wSet (pPut W n (nI (x p)) 0) 3 (q (d - 1)) (nI n)) 3 (W 2 (q (d - 1))).toNatClampNeg (nI n) 1 n = 0
            rw [wSet_k (by decide), wSet_k (by decide)]; exact pPut_1
          · rw [if_neg hc] at hs; cases hs
        · rw [if_neg c4] at hs
          by_cases c5 : x p = 125
          · rw [if_pos c5] at hs
            by_cases hc : 0 < d ∧ W 0 (q (d - 1)) = 123
            · rw [if_pos hc] at hs
              cases hs
              rw [t0 (by omega)]
              refine ⟨hp, by omega, rfl, fun z => absurd z (by decide), fun _ _ _ _ => ?_⟩
              show wSet (pPut W n (nI (x p)) 0) 3 (q (d - 1)) (nI n) 1 n = 0
              rw [wSet_k (by decide)]; exact pPut_1
            · rw [if_neg hc] at hs; cases hs
          · rw [if_neg c5] at hs
            by_cases c6 : x p = 114 ∨ x p = 119
            · rw [if_pos c6] at hs
              by_cases hc : p + 1 < L ∧ 48 ≤ x (p + 1) ∧ x (p + 1) ≤ 48 + 5
              · rw [if_pos hc] at hs
                cases hs
                rw [t1 (by omega)]
                exact ⟨hp, by omega, rfl, fun _ => ⟨hc.1, hc.2.1, pPut_1 (c := nI (x p))⟩, fun z => absurd z (by decide)⟩
              · rw [if_neg hc] at hs; cases hs
            · rw [if_neg c6] at hs
              by_cases c7 : x p = 43 ∨ x p = 45 ∨ x p = 63
              · rw [if_pos c7] at hs
                by_cases hc : p + 1 < L ∧ 48 ≤ x (p + 1) ∧ x (p + 1) ≤ 48 + 9
                · rw [if_pos hc] at hs
                  cases hs
                  rw [t1 (by omega)]
                  exact ⟨hp, by omega, rfl, fun _ => ⟨hc.1, hc.2.1, pPut_1 (c := nI (x p))⟩, fun z => absurd z (by decide)⟩
                · rw [if_neg hc] at hs; cases hs
              · rw [if_neg c7] at hs; cases hs
theorem CTx.keep {L : Nat} {x : Nat → Nat} {m m' : ct_M} (h : CTx L x m) (h1 : m'.1 1 = m.1 1) (h2 : m'.1 2 = m.1 2) : CTx L x m' := ⟨by rw [h1]; exact h.1, fun k hk => by rw [h2]; exact h.2 k hk⟩
theorem nI_48 {y : Nat} (h : 48 ≤ y) (h2 : y < 256) : nI y - (48 : Int32) = nI (y - 48) := by
  apply Int32.toInt_inj.mp
  rw [Int32.toInt_sub, nI_toInt (by omega), nI_toInt (by omega), show (48 : Int32).toInt = 48 from rfl]
  rw [Int.bmod_eq_of_le (by omega) (by omega)]
  omega
theorem c_digit {L p : Nat} {x : Nat → Nat} {Q : Int32 → ct_M → Prop} {m : ct_M} (hL : L ≤ 60) (hx : CTx L x m) (hp : p < L) (h48 : 48 ≤ x p) (h : Q (nI (x p - 48)) m) : wp_X8_digitAt 1 (nI p) Q m := by
  have l2 : ct_ln (1 + 1) = 60 := by decide +kernel
  unfold wp_X8_digitAt
  rw [hx.1]
  simp (disch := omega) only [vp_nI, cl, l2]
  refine ⟨fun z => absurd z (nI_pos (by omega)), fun _ => ⟨fun z => absurd ((cmp_le (by omega) (by omega)).mp z) (by omega), fun _ => ⟨fun z => absurd ((cmp_le (a := 60) (by decide) (by omega)).mp z) (by omega), fun _ => ⟨by omega, ?_⟩⟩⟩⟩
  rw [show m.1 (1 + 1) p = nI (x p) from (hx.2 p hp).2, nI_48 h48 (hx.2 p hp).1]
  exact h
theorem c_program {L t : Nat} {x : Nat → Nat} {Q : Int32 → ct_M → Prop} {S2 : PQ} (hL : L ≤ 60) (ht : t < 3) : ∀ {f : Nat} {S : PQ} {m : ct_M}, L ≤ S.1 + f → PI0 L S → PJ S → CTx L x m → CI m (11 + 5 * t) S → pThread L x f S = some S2 → (∀ m', PFr (11 + 5 * t) m m' → CI m' (11 + 5 * t) S2 → Q (nI (S2.1 + 1)) m') → wb_X8_fillProgram_6 Q (f + 1) 1 (11 + 5 * t) (nI S.1) m := by
  intro f
  have l2 : ct_ln (1 + 1) = 60 := by decide +kernel
  induction f with
  | zero => intro S m _ _ _ _ _ h _; cases h
  | succ f ih =>
    intro S m hf g0 hj hx hC hp h
    rw [pThread_s] at hp
    have hx1 : ∀ k, k < L → x k < 256 := fun k hk => (hx.2 k hk).1
    by_cases c : S.1 < L ∧ x S.1 = 46 ∧ S.2.2.1 = 0
    · rw [if_pos c] at hp
      have eS : S = S2 := by injection hp
      subst eS
      unfold wb_X8_fillProgram_6
      rw [hx.1]
      simp (disch := omega) only [vp_nI, cl, l2]
      rw [show m.1 (1 + 1) S.1 = nI (x S.1) from (hx.2 S.1 c.1).2]
      refine ⟨fun z => absurd ((cmp_le (by omega) (by omega)).mp z) (by omega), fun _ => ⟨fun z => absurd ((cmp_le (a := 60) (by decide) (by omega)).mp z) (by omega), fun _ => ⟨by omega, fun _ => ?_, fun z => absurd (show nI (x S.1) = 46 by rw [c.2.1]; rfl) z⟩⟩⟩
      unfold wb_X8_fillProgram_82
      rw [nI_ofNat 1, nI_add]
      exact h m PFr.rf hC
    · rw [if_neg c] at hp
      cases e : tStep L x S with
      | none => rw [e] at hp; cases hp
      | some S1 =>
        rw [e] at hp
        have hp : pThread L x f S1 = some S2 := hp
        obtain ⟨s1, s2, s3, s4, s5⟩ := t_shape e
        obtain ⟨a1, a2, -⟩ := t_some (vr := 0) (tr := 0) (aw := fun i => awOf S.2.2.2.2.2 (S.2.2.2.1 i)) hL g0 (fun i _ => rfl) e
        have hj1 := PJ_step hL hx1 g0 hj e
        have add : ∀ (v : Int32) (v3 : Int32), v = S1.2.2.2.2.2 1 S.2.1 → v3 = nI S1.1 → wb_X8_fillProgram_71 (wb_X8_fillProgram_6 Q (f + 1)) Q 1 (11 + 5 * t) v3 (nI (x S.1)) v m := by
          intro v v3 hv hv3
          subst hv3
          unfold wb_X8_fillProgram_71
          refine c_add hL ht hx1 g0 hj hC e hv (fun m1 f1 C1 => ?_)
          refine ih (by omega) a2 hj1 (hx.keep (f1.2 1 (by omega)) (f1.2 2 (by omega))) C1 hp (fun m' f2 C2 => h m' (f1.tr f2) C2)
        have two : pTw (x S.1) = 1 → wb_X8_fillProgram_61 (wb_X8_fillProgram_6 Q (f + 1)) Q 1 (11 + 5 * t) (nI (S.1 + 1)) (nI (x S.1)) m := by
          intro z
          obtain ⟨z1, z2, z3⟩ := s4 z
          unfold wb_X8_fillProgram_61
          refine c_digit hL hx z1 z2 ?_
          intro x3 hx3
          exact add _ _ z3.symm (by rw [hx3, nI_ofNat 1, nI_add, s3, z])
        obtain ⟨y1, y2⟩ := hx.2 S.1 s1
        have E := fun k hk => eqI y1 k hk
        unfold wb_X8_fillProgram_6
        rw [hx.1]
        simp (disch := omega) only [vp_nI, cl, l2]
        rw [show m.1 (1 + 1) S.1 = nI (x S.1) from y2]
        refine ⟨fun z => absurd ((cmp_le (by omega) (by omega)).mp z) (by omega), fun _ => ⟨fun z => absurd ((cmp_le (a := 60) (by decide) (by omega)).mp z) (by omega), fun _ => ⟨by omega, fun z => absurd ((E 46 (by omega)).mp z) s2, fun _ => ⟨by omega, ?_⟩⟩⟩⟩
        intro x5 h5 x6 h6
        subst h5
        rw [nI_ofNat 1, nI_add] at h6
        subst h6
        unfold wp_X7_wantsCell wb_X7_wantsCell_12 wp_X7_wantsNumber wb_X7_wantsNumber_18
        have w1 : (x S.1 = 114 ∨ x S.1 = 119 ∨ x S.1 = 43 ∨ x S.1 = 45 ∨ x S.1 = 63) → pTw (x S.1) = 1 := fun c => if_pos c
        refine ⟨fun z => ⟨fun _ => two (w1 (by have := (E 114 (by omega)).mp z; omega)), fun z => absurd z (by decide)⟩, fun n1 => ⟨fun n2 => ⟨fun z => absurd rfl z, fun _ => ⟨fun z => ⟨fun z => absurd z (by decide), fun _ => two (w1 (by have := (E 43 (by omega)).mp z; omega))⟩, fun n3 => ⟨fun z => ⟨fun z => absurd z (by decide), fun _ => two (w1 (by have := (E 45 (by omega)).mp z; omega))⟩, fun n4 => ⟨fun n5 => ⟨fun _ => ?_, fun z => absurd rfl z⟩, fun z => ⟨fun z => absurd z (by decide), fun _ => two (w1 (by have := (E 63 (by omega)).mp z; omega))⟩⟩⟩⟩⟩, fun z => ⟨fun _ => two (w1 (by have := (E 119 (by omega)).mp z; omega)), fun z => absurd z (by decide)⟩⟩⟩
        have w0 : pTw (x S.1) = 0 := by
          refine if_neg fun z => ?_
          rcases z with z | z | z | z | z
          · exact n1 (by rw [z]; rfl)
          · exact n2 (by rw [z]; rfl)
          · exact n3 (by rw [z]; rfl)
          · exact n4 (by rw [z]; rfl)
          · exact n5 (by rw [z]; rfl)
        refine add 0 _ (s5 w0 (fun i hi => (g0.2.2.2.1 i hi).1) (PJ_bars (p := S.1) (n := S.2.1) (d := S.2.2.1) (q := S.2.2.2.1) (dp := S.2.2.2.2.1) (W := S.2.2.2.2.2) hj) (by have := g0.2.1; omega)).symm ?_
        rw [s3, w0]
/-- a fresh worker -/
def FW (m : ct_M) (w : Nat) (r : Int32) : Prop := m.1 w 1 = 0 ∧ m.1 w 2 = r ∧ m.1 w 3 = 0 ∧ m.1 w 4 = 0 ∧ m.1 w 5 = 0 ∧ m.1 w 9 = 0 ∧ m.1 (w + 1) 0 = 0 ∧ m.1 (w + 3) 0 = 0
def WFr (t : Nat) (m m' : ct_M) : Prop := m'.2 = m.2 ∧ ∀ q, q ≠ 26 → q ≠ 33 + 15 * t → q ≠ 34 + 15 * t → q ≠ 36 + 15 * t → m'.1 q = m.1 q
theorem c_addThread {t : Nat} {r : Int32} {Q : ct_M → Prop} {m : ct_M} (ht : t < 3) (h3 : m.1 26 3 = nI t) (h : ∀ m', WFr t m m' → m'.1 26 = upd (m.1 26) 3 (nI (t + 1)) → FW m' (33 + 15 * t) r → Q m') : wp_X10_addThread 26 r Q m := by
  have l3 : ct_ln (26 + 3) = 3 := by decide +kernel
  unfold wp_X10_addThread
  rw [h3]
  simp (disch := omega) only [vp_nI, cl, l3]
  refine ⟨fun z => absurd z (nI_pos (by omega)), fun _ => ⟨fun z => absurd ((cmp_le (a := 3) (by decide) (by omega)).mp z) (by omega), fun _ => ⟨ht, ?_⟩⟩⟩
  rw [show 26 + 3 + 4 + 15 * t = 33 + 15 * t by omega]
  intro m5 e5 m6 e6
  refine c_become (fun m7 f7 b0 b1 b2 b3 => ?_)
  have s6 : m6.1 (33 + 15 * t) = upd (upd (m.1 (33 + 15 * t)) 2 r) 3 0 := by subst e6 e5; rw [ct_st_eq, ct_st_eq]
  have o6 : ∀ q, q ≠ 33 + 15 * t → m6.1 q = m.1 q := fun q hq => by subst e6 e5; rw [ct_st_ne hq, ct_st_ne hq]
  have o7 : m7.1 26 = m.1 26 := by rw [b3 26 (by omega) (by omega) (by omega), o6 26 (by omega)]
  intro m8 e8
  rw [o7, h3, nI_ofNat 1, nI_add] at e8
  have o8 : ∀ q, q ≠ 26 → m8.1 q = m7.1 q := fun q hq => by subst e8; exact ct_st_ne hq
  refine h m8 ⟨?_, fun q q1 q2 q3 q4 => ?_⟩ (by subst e8; rw [ct_st_eq, o7]) ?_
  · subst e8; show m7.2 = m.2; rw [f7.1.1]; subst e6 e5; rfl
  · rw [o8 q q1, b3 q q2 (by omega) (by omega), o6 q q2]
  · unfold FW
    rw [o8 _ (by omega), o8 _ (by omega), o8 _ (by omega), b0, b1, b2, s6]
    refine ⟨rfl, rfl, rfl, rfl, rfl, rfl, rfl, rfl⟩
