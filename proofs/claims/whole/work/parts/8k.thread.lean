/-! a thread's program to its full stop -/
theorem PJ_step {x : Nat → Nat} {L : Nat} {S S' : PQ} (hL : L ≤ 60) (hx : ∀ k, k < L → x k < 256) (h0 : PI0 L S) (h : PJ S) (hs : tStep L x S = some S') : PJ S' := by
  obtain ⟨p, n, d, q, dp, W⟩ := S
  obtain ⟨g1, g2, g3, g4, g5⟩ := h0
  have g1 : p ≤ L := g1
  have g2 : n ≤ p := g2
  have g3 : d ≤ 3 := g3
  have g4 : ∀ i, i < d → q i < n ∧ (W 0 (q i) = 40 ∨ W 0 (q i) = 123) := g4
  have g5 : ∀ i j, i < j → j < d → q i < q j := g5
  rw [tStep_def] at hs
  by_cases hp : p < L
  · rw [if_pos hp] at hs
    have E := fun k hk => eqI (hx p hp) k hk
    have nOp : ¬ (x p = 40 ∨ x p = 123) → ¬ pOp (nI (x p)) := fun z y => z (y.elim (fun w => Or.inl ((E 40 (by omega)).mp w)) (fun w => Or.inr ((E 123 (by omega)).mp w)))
    have nCl : ¬ (x p = 41 ∨ x p = 125) → ¬ pCl (nI (x p)) := fun z y => z (y.elim (fun w => Or.inl ((E 41 (by omega)).mp w)) (fun w => Or.inr ((E 125 (by omega)).mp w)))
    have n124 : ¬ x p = 124 → ¬ nI (x p) = 124 := fun z w => z ((E 124 (by omega)).mp w)
    by_cases c1 : x p = 33 ∨ x p = 120
    · rw [if_pos c1] at hs
      cases hs
      refine PJ_plain (by omega) g3 g4 h ?_ (nOp (by omega)) (nCl (by omega)) (n124 (by omega))
      unfold pLet
      rw [pPut_0]
      rcases c1 with z | z <;> rw [z]
      · exact Or.inl rfl
      · exact Or.inr (Or.inr (Or.inl rfl))
    · rw [if_neg c1] at hs
      by_cases c2 : x p = 40 ∨ x p = 123
      · rw [if_pos c2] at hs
        by_cases hd : d < 3
        · rw [if_pos hd] at hs
          cases hs
          refine PJ_open (by omega) hd g4 h ?_
          rcases c2 with z | z <;> rw [z]
          · exact Or.inl rfl
          · exact Or.inr rfl
        · rw [if_neg hd] at hs; cases hs
      · rw [if_neg c2] at hs
        by_cases c3 : x p = 124
        · rw [if_pos c3] at hs
          by_cases hc : 0 < d ∧ W 0 (q (d - 1)) = 40 ∧ W 2 (q (d - 1)) = -9
          · rw [if_pos hc] at hs
            cases hs
            rw [c3]
            exact PJ_part (by omega) g3 hc.1 g4 g5 h hc.2.1 hc.2.2
          · rw [if_neg hc] at hs; cases hs
        · rw [if_neg c3] at hs
          by_cases c4 : x p = 41
          · rw [if_pos c4] at hs
            by_cases hc : 0 < d ∧ W 0 (q (d - 1)) = 40 ∧ ¬ W 2 (q (d - 1)) = -9
            · rw [if_pos hc] at hs
              cases hs
              have hf := (g4 (d - 1) (by omega)).1
              obtain ⟨b, b1, b3⟩ : ∃ b : Nat, W 2 (q (d - 1)) = nI b ∧ b < n := by
                rcases (h.2.2.2.2 _ hf).2.1 with y | ⟨b, b1, b2, b3, -⟩
                · exact absurd y hc.2.2
                · exact ⟨b, b1, b3⟩
              have eb : (W 2 (q (d - 1))).toNatClampNeg = b := by rw [b1, cl (by omega)]
              rw [eb]
              refine PJ_close (c := nI (x p)) (e := 0) (by omega) g3 hc.1 g4 g5 h (by rw [c4]; exact Or.inl rfl) (fun k hk => by rw [wSet_k hk, wSet_k hk]) ?_ (fun b2 hb2 e => ?_) (fun i hi e1 e2 => ?_) (fun _ => hc.2.2)
              · by_cases e : q (d - 1) = b
                · rw [e, wSet_eq]
                · rw [wSet_ne e, wSet_eq]
              · rw [b1] at e
                have : b = b2 := (cmp_eq (by omega) (by omega)).mp e
                subst this
                rw [wSet_eq]
              · rw [wSet_ne (fun y => e2 (by rw [b1, y])), wSet_ne e1, pPut_ne 3 (by omega)]
            · rw [if_neg hc] at hs; cases hs
          · rw [if_neg c4] at hs
            by_cases c5 : x p = 125
            · rw [if_pos c5] at hs
              by_cases hc : 0 < d ∧ W 0 (q (d - 1)) = 123
              · rw [if_pos hc] at hs
                cases hs
                have hf := (g4 (d - 1) (by omega)).1
                refine PJ_close (c := nI (x p)) (e := 0) (by omega) g3 hc.1 g4 g5 h (by rw [c5]; exact Or.inr rfl) (fun k hk => by rw [wSet_k hk]) wSet_eq (fun b2 hb2 e => ?_) (fun i hi e1 e2 => ?_) (fun z => ?_)
                · exfalso
                  rcases (h.2.2.2.2 _ hf).2.1 with y | ⟨b, b1, b2, b3, b4, -⟩
                  · rw [y] at e; exact nI_n9 (by omega) e.symm
                  · rw [hc.2] at b4; exact absurd b4 (by decide)
                · rw [wSet_ne e1, pPut_ne 3 (by omega)]
                · rw [hc.2] at z; exact absurd z (by decide)
              · rw [if_neg hc] at hs; cases hs
            · rw [if_neg c5] at hs
              by_cases c6 : x p = 114 ∨ x p = 119
              · rw [if_pos c6] at hs
                by_cases hc : p + 1 < L ∧ 48 ≤ x (p + 1) ∧ x (p + 1) ≤ 48 + 5
                · rw [if_pos hc] at hs
                  cases hs
                  refine PJ_plain (by omega) g3 g4 h ?_ (nOp (by omega)) (nCl (by omega)) (n124 (by omega))
                  unfold pLet
                  rw [pPut_0, pPut_1]
                  rcases c6 with z | z <;> rw [z]
                  · exact Or.inr (Or.inr (Or.inr (Or.inl ⟨rfl, _, by omega, rfl⟩)))
                  · exact Or.inr (Or.inr (Or.inr (Or.inr (Or.inl ⟨rfl, _, by omega, rfl⟩))))
                · rw [if_neg hc] at hs; cases hs
              · rw [if_neg c6] at hs
                by_cases c7 : x p = 43 ∨ x p = 45 ∨ x p = 63
                · rw [if_pos c7] at hs
                  by_cases hc : p + 1 < L ∧ 48 ≤ x (p + 1) ∧ x (p + 1) ≤ 48 + 9
                  · rw [if_pos hc] at hs
                    cases hs
                    refine PJ_plain (by omega) g3 g4 h ?_ (nOp (by omega)) (nCl (by omega)) (n124 (by omega))
                    unfold pLet
                    rw [pPut_0]
                    rcases c7 with z | z | z <;> rw [z]
                    · exact Or.inr (Or.inr (Or.inr (Or.inr (Or.inr (Or.inl rfl)))))
                    · exact Or.inr (Or.inr (Or.inr (Or.inr (Or.inr (Or.inr (Or.inl rfl))))))
                    · exact Or.inr (Or.inl rfl)
                  · rw [if_neg hc] at hs; cases hs
                · rw [if_neg c7] at hs; cases hs
  · rw [if_neg hp] at hs; cases hs
theorem PJ_bars {p n d : Nat} {q dp : Nat → Nat} {W : Nat → Row} (h : PJ (p, n, d, q, dp, W)) : ∀ j, j < n → W 2 j = -9 ∨ ∃ b : Nat, b < n ∧ W 2 j = nI b := fun j hj => by
  rcases (h.2.2.2.2 j hj).2.1 with y | ⟨b, b1, b2, b3, -⟩
  · exact Or.inl y
  · exact Or.inr ⟨b, b3, b1⟩
theorem pThread_s {x : Nat → Nat} {L f : Nat} {S : PQ} : pThread L x (f + 1) S = if S.1 < L ∧ x S.1 = 46 ∧ S.2.2.1 = 0 then some S else match tStep L x S with
    | none => none
    | some S' => pThread L x f S' := rfl
theorem pThread_some {x : Nat → Nat} {L : Nat} (hL : L ≤ 60) (hx : ∀ k, k < L → x k < 256) : ∀ {f : Nat} {S S' : PQ}, PI0 L S → PJ S → pThread L x f S = some S' → PI0 L S' ∧ PJ S' ∧ S'.1 < L ∧ x S'.1 = 46 ∧ S'.2.2.1 = 0 ∧ S.1 ≤ S'.1 := by
  intro f
  induction f with
  | zero => intro S S' _ _ h; cases h
  | succ f ih =>
    intro S S' h0 hj h
    rw [pThread_s] at h
    by_cases c : S.1 < L ∧ x S.1 = 46 ∧ S.2.2.1 = 0
    · rw [if_pos c] at h
      cases h
      exact ⟨h0, hj, c.1, c.2.1, c.2.2, Nat.le_refl _⟩
    · rw [if_neg c] at h
      cases e : tStep L x S with
      | none => rw [e] at h; cases h
      | some S1 =>
        rw [e] at h
        obtain ⟨a1, a2, -⟩ := t_some (vr := 0) (tr := 0) (aw := fun i => awOf S.2.2.2.2.2 (S.2.2.2.1 i)) hL h0 (fun i _ => rfl) e
        obtain ⟨b1, b2, b3, b4, b5, b6⟩ := ih a2 (PJ_step hL hx h0 hj e) h
        exact ⟨b1, b2, b3, b4, b5, by omega⟩
/-- where the automaton takes all, a thread is read to its full stop -/
theorem pThread_ok {x : Nat → Nat} {L vr tr : Nat} (hL : L ≤ 60) (hx : ∀ k, k < L → x k < 256) : ∀ {f : Nat} {S : PQ} {aw : Nat → Nat}, L ≤ S.1 + f → PI0 L S → AWR S aw → aErr x (L - S.1) S.1 (4, vr, tr, S.2.2.1, aw) = -9 → ∃ S' aw', pThread L x f S = some S' ∧ aErr x (L - (S'.1 + 1)) (S'.1 + 1) (2, vr, tr + 1, 0, aw') = -9 := by
  intro f
  induction f with
  | zero =>
    intro S aw hf h0 ha h
    have : S.1 = L := by have := h0.1; omega
    rw [this, aErr_0 (by show (4 : Nat) ≠ 2; decide)] at h
    exact absurd h (nI_n9 (by omega))
  | succ f ih =>
    intro S aw hf h0 ha h
    rw [pThread_s]
    by_cases hp : S.1 < L
    · cases e : tStep L x S with
      | none =>
        obtain ⟨n1, n2⟩ := t_none (vr := vr) (tr := tr) h0 ha hp e
        by_cases c : x S.1 = 46 ∧ S.2.2.1 = 0
        · rw [if_pos ⟨hp, c⟩]
          refine ⟨S, aw, rfl, ?_⟩
          rw [n1 c.1 c.2] at h; exact h
        · rw [n2 c] at h
          exact absurd h (nI_n9 (by unfold pTw; split <;> omega))
      | some S1 =>
        obtain ⟨a1, a2, aw1, a3, a4⟩ := t_some (vr := vr) (tr := tr) hL h0 ha e
        have nd : ¬ (S.1 < L ∧ x S.1 = 46 ∧ S.2.2.1 = 0) := by
          intro z
          obtain ⟨p, n, d, q, dp, W⟩ := S
          have z1 : x p = 46 := z.2.1
          rw [tStep_def, if_pos z.1, if_neg (by omega), if_neg (by omega), if_neg (by omega), if_neg (by omega), if_neg (by omega), if_neg (by omega), if_neg (by omega)] at e
          cases e
        rw [if_neg nd]
        exact ih (by omega) a2 a3 (by rw [← a4]; exact h)
    · have : S.1 = L := by have := h0.1; omega
      rw [this, aErr_0 (by show (4 : Nat) ≠ 2; decide)] at h
      exact absurd h (nI_n9 (by omega))
/-- the reference's loop over the tokens of a thread -/
theorem r_tokens {x : Nat → Nat} {L t vr tr : Nat} {Q : Int32 → ct_M → Prop} (hL : L ≤ 60) (ht : t < 3) : ∀ {f : Nat} {S : PQ} {aw : Nat → Nat} {m : ct_M}, L ≤ S.1 + f → PI0 L S → PJ S → AWR S aw → RTx L x m → MR m t S →
    (∀ S' aw', pThread L x f S = some S' → aErr x (L - S.1) S.1 (4, vr, tr, S.2.2.1, aw) = aErr x (L - (S'.1 + 1)) (S'.1 + 1) (2, vr, tr + 1, 0, aw') → ∀ m', MR m' t S' → FrP t m m' → Q 1 (ct_st (ct_st m' 1023 3 (nI (S'.1 + 1))) 1023 19 (nI (t + 1)))) →
    (pThread L x f S = none → ∀ pos, pos < 2 ^ 30 → aErr x (L - S.1) S.1 (4, vr, tr, S.2.2.1, aw) = nI pos → ∀ m', m'.1 1023 3 = nI pos → FrP t m m' → Q 0 m') → wb_X12_parseThread_80 Q (f + 1) 1023 m := by
  intro f
  have l24 : ct_ln (1023 + 1) = 60 := by decide
  have atEnd : ∀ {k f : Nat} {S : PQ} {aw : Nat → Nat} {m : ct_M}, S.1 = L → RTx L x m → MR m t S → (pThread L x f S = none → ∀ pos, pos < 2 ^ 30 → aErr x (L - S.1) S.1 (4, vr, tr, S.2.2.1, aw) = nI pos → ∀ m', m'.1 1023 3 = nI pos → FrP t m m' → Q 0 m') → pThread L x f S = none → wb_X12_parseThread_80 Q (k + 1) 1023 m := by
    intro k f S aw m hp hx hM h0 hn
    unfold wb_X12_parseThread_80
    rw [hx.1, hM.1, hp]
    refine ⟨fun _ => ?_, fun z => absurd ((cmp_le (by omega) (by omega)).mpr (Nat.le_refl _)) z⟩
    unfold wb_X12_parseThread_121
    rw [hx.1, hM.1, hp]
    exact ⟨fun z => absurd rfl z, fun _ => h0 hn L (by omega) (by rw [hp]; exact aErr_0 (by show (4 : Nat) ≠ 2; decide)) m (by rw [hM.1, hp]) FrP.rf⟩
  induction f with
  | zero =>
    intro S aw m hf g0 hj ha hx hM h1 h0
    exact atEnd (f := 0) (by have := g0.1; omega) hx hM h0 rfl
  | succ f ih =>
    intro S aw m hf g0 hj ha hx hM h1 h0
    by_cases hp : S.1 < L
    · obtain ⟨hx1, hx2⟩ := hx.2 S.1 hp
      unfold wb_X12_parseThread_80
      rw [hx.1, hM.1]
      refine ⟨fun z => absurd ((cmp_le (by omega) (by omega)).mp z) (by omega), fun _ => ?_⟩
      simp (disch := omega) only [vp_nI, cl, l24]
      rw [show m.1 (1023 + 1) S.1 = nI (x S.1) from hx2, hM.2.2.1]
      refine ⟨by omega, ?_⟩
      have tok : ¬ (x S.1 = 46 ∧ S.2.2.1 = 0) → wb_X12_parseThread_112 (wb_X12_parseThread_80 Q (f + 1)) Q 1023 m := by
        intro nd
        unfold wb_X12_parseThread_112
        have eq : pThread L x (f + 1) S = match tStep L x S with
          | none => none
          | some S' => pThread L x f S' := by rw [pThread_s, if_neg fun z => nd z.2]
        refine r_parseToken hL ht hx g0 (PJ_bars (p := S.1) (n := S.2.1) (d := S.2.2.1) (q := S.2.2.2.1) (dp := S.2.2.2.2.1) (W := S.2.2.2.2.2) hj) hp hM (fun S1 e m1 M1 f1 => ⟨fun _ => ?_, fun z => absurd z (by decide)⟩) (fun e m1 p1 f1 => ⟨fun z => absurd rfl z, fun _ => ?_⟩)
        · obtain ⟨a1, a2, aw1, a3, a4⟩ := t_some (vr := vr) (tr := tr) hL g0 ha e
          rw [e] at eq
          refine ih (by omega) a2 (PJ_step hL (fun k hk => (hx.2 k hk).1) g0 hj e) a3 (hx.keep f1) M1 (fun S2 aw2 e2 e3 m2 M2 f2 => h1 S2 aw2 (eq.trans e2) (a4.trans e3) m2 M2 (f1.tr f2)) (fun e2 pos ps e3 m2 p2 f2 => h0 (eq.trans e2) pos ps (a4.trans e3) m2 p2 (f1.tr f2))
        · obtain ⟨n1, n2⟩ := t_none (vr := vr) (tr := tr) g0 ha hp e
          rw [e] at eq
          exact h0 eq _ (by unfold pTw; split <;> omega) (n2 nd) m1 p1 f1
      refine ⟨fun z => tok fun y => z (by rw [y.1]; rfl), fun z => ⟨fun z2 => ?_, fun z2 => tok fun y => z2 (by rw [y.2]; decide)⟩⟩
      have c1 : x S.1 = 46 := (eqI hx1 46 (by omega)).mp z
      have c2 : S.2.2.1 = 0 := by
        have := (cmp_le (b := 0) (by have := g0.2.2.1; omega) (by decide)).mp z2
        omega
      unfold wb_X12_parseThread_121
      rw [hx.1, hM.1]
      refine ⟨fun _ => ?_, fun z => absurd ((cmp_eq (by omega) (by omega)).mp z) (by omega)⟩
      intro m2 e2 m3 e3
      rw [nI_ofNat 1, nI_add] at e2
      have t2 : m2.1 1023 19 = nI t := by subst e2; rw [ct_st_eq, upd_ne _ _ (by decide)]; exact hM.2.1
      rw [t2, nI_ofNat 1, nI_add] at e3
      subst e3 e2
      have en : tStep L x S = none := by
        obtain ⟨p, n, d, q, dp, W⟩ := S
        have c1 : x p = 46 := c1
        rw [tStep_def, if_pos hp, if_neg (by omega), if_neg (by omega), if_neg (by omega), if_neg (by omega), if_neg (by omega), if_neg (by omega), if_neg (by omega)]
      refine h1 S aw ?_ ((t_none g0 ha hp en).1 c1 c2) m hM FrP.rf
      rw [pThread_s, if_pos ⟨hp, c1, c2⟩]
    · refine atEnd (f := f + 1) (by have := g0.1; omega) hx hM h0 ?_
      rw [pThread_s, if_neg fun z => hp z.1]
      have : tStep L x S = none := by
        obtain ⟨p, n, d, q, dp, W⟩ := S
        rw [tStep_def, if_neg hp]
      rw [this]
