/-! the reference: committing -/
theorem pr_idne (m : ct_M) {A B : Nat} (j : Nat) (x : Int32) (h : A ≠ B) : pr (ct_st m B j x) A (m.1 A) = ct_st m B j x := by
  have := pr_id (ct_st m B j x) A
  rw [ct_st_ne h] at this
  exact this
def rInvs (v : Row) (n : Nat) : Prop := v 12 = nI n ∧ n ≤ 4 ∧ ∀ k, k < n → ∃ i j : Nat, i < 6 ∧ j < 6 ∧ v (13 + 3 * k) = nI i ∧ v (13 + 3 * k + 1) = nI j
def rInvOK (v : Row) (t n : Nat) : Prop := ∀ k, k < n → v (13 + 3 * k + 2) ≤ rSees v t (v (13 + 3 * k)).toNatClampNeg + rSees v t (v (13 + 3 * k + 1)).toNatClampNeg
noncomputable def rPut (v : Row) (t : Nat) (n : Nat) : Row := fun c => if c < n then rSees v t c else v c
theorem rSees_put {v : Row} {t n c : Nat} (h : n ≤ 6) (hc : n ≤ c) (hc6 : c < 6) : rSees (rPut v t n) t c = rSees v t c := by
  have hr : rAt t = 25 + 49 * t := rfl
  have e9 : rPut v t n (rAt t + 9) = v (rAt t + 9) := if_neg (by omega)
  have e10 : rPut v t n (rAt t + 10 + c) = v (rAt t + 10 + c) := if_neg (by omega)
  have ec : rPut v t n c = v c := if_neg (by omega)
  by_cases hb : bitSet (v (rAt t + 9)) c
  · rw [rSees_in hb, rSees_in (by rw [e9]; exact hb), e10]
  · rw [rSees_out hb, rSees_out (by rw [e9]; exact hb), ec]
def rRuns (v : Row) (t : Nat) : Int32 := v (rAt t + 47) - 1
noncomputable def rAfter (v : Row) (t : Nat) : Row := upd (rStop (rPut v t 6) t (if rRuns v t = 0 then 2 else 0)) (rAt t + 47) (rRuns v t)
noncomputable def rGrows (W : Int32) (T : Nat) (v : Row) : Nat → Row
  | 0 => v
  | c + 1 => @ite _ (bitSet W c) (Classical.propDecidable _) (rGrow (rGrows W T v c) c T) (rGrows W T v c)
noncomputable def rDone (v : Row) (t T : Nat) : Row := rGrows (v (rAt t + 9)) T (rAfter v t) 6
theorem r_grows {A T : Nat} {Q : Int32 → ct_M → Prop} {m : ct_M} (hA : ct_ln A = 172) (hA2 : 1023 < A) (hT : T ≤ 3) (hth : m.1 1023 4 = nI T) (h : Q 1 (pr m A (rGrows (m.1 1023 29) T (m.1 A) 6))) : ∃ n, wb_X12_commit_151 Q n 1023 A (0 : Int32) m := by
  have loop : ∀ (k j : Nat), j + k = 6 → wb_X12_commit_151 Q (k + 1) 1023 A (nI j) (pr m A (rGrows (m.1 1023 29) T (m.1 A) j)) := by
    intro k
    induction k with
    | zero =>
      intro j hj
      have : j = 6 := by omega
      subst this
      unfold wb_X12_commit_151
      exact ⟨fun _ => h, fun e => absurd (by decide) e⟩
    | succ k ih =>
      intro j hj
      have nx := ih (j + 1) (by omega)
      unfold wb_X12_commit_151 wb_X12_commit_177
      rw [pr_ne _ _ (by omega : (1023 : Nat) ≠ A)]
      simp (disch := omega) only [nI_ofNat, cmp_le, fa_eq, nI_add]
      refine ⟨fun e => absurd e (by omega), fun _ => r_has (fun hb => ?_) (fun hb => ?_)⟩
      · refine ⟨fun e => absurd e (by decide), fun _ => r_grow hA (by omega) hT ?_ (by omega) ?_⟩
        · rw [pr_ne _ _ (by omega : (1023 : Nat) ≠ A)]; exact hth
        · have e : rGrows (m.1 1023 29) T (m.1 A) (j + 1) = rGrow (rGrows (m.1 1023 29) T (m.1 A) j) j T := if_pos hb
          rw [pr_at, pr_pr, ← e]
          exact nx
      · refine ⟨fun _ => ?_, fun e => absurd rfl e⟩
        have e : rGrows (m.1 1023 29) T (m.1 A) (j + 1) = rGrows (m.1 1023 29) T (m.1 A) j := if_neg hb
        rw [← e]
        exact nx
  refine ⟨7, ?_⟩
  have := loop 6 0 rfl
  unfold rGrows at this
  rw [pr_id] at this
  exact this
theorem r_commit {A t T n : Nat} {Q : Int32 → ct_M → Prop} {m : ct_M} (hA : ct_ln A = 172) (hA2 : 1023 < A) (hT : T ≤ 3) (ht : t < 3) (hth : m.1 1023 4 = nI T) (hi : rInvs (m.1 A) n)
    (h0 : ¬ rValid (m.1 A) t → Q 2 (pr m A (rRestart (m.1 A) t)))
    (h1 : rValid (m.1 A) t → ¬ rInvOK (m.1 A) t n → Q 4 (pr m A (rStop (m.1 A) t 3)))
    (h2 : rValid (m.1 A) t → rInvOK (m.1 A) t n → Q 1 (pr (ct_st m 1023 29 (m.1 A (rAt t + 9))) A (rDone (m.1 A) t T))) : wp_X12_commit 1023 A (nI t) Q m := by
  have hr : rAt t = 25 + 49 * t := rfl
  obtain ⟨hi12, hn4, hik⟩ := hi
  have hne : (1023 : Nat) ≠ A := by omega
  have put : rValid (m.1 A) t → rInvOK (m.1 A) t n → ∀ (k j : Nat), j + k = 6 → wb_X12_commit_91 Q (k + 1) 1023 A (nI t) (nI j) (pr (ct_st m 1023 29 (m.1 A (rAt t + 9))) A (rPut (m.1 A) t j)) := by
    intro hv hok k
    have h2 := h2 hv hok
    induction k with
    | zero =>
      intro j hj
      have : j = 6 := by omega
      subst this
      unfold wb_X12_commit_91 wp_X12_at
      have hend : ∀ how : Int32, how = (if rRuns (m.1 A) t = 0 then 2 else 0) → wb_X12_commit_135 Q 1023 A (nI t) (rRuns (m.1 A) t) how (nI t) A (pr (ct_st m 1023 29 (m.1 A (rAt t + 9))) A (rPut (m.1 A) t 6)) := by
        intro how hhow
        subst hhow
        unfold wb_X12_commit_135
        refine r_stop hA ht ?_
        unfold wp_X12_at
        simp (disch := omega) only [nI_ofNat, pk_mul, nI_add, vp_nI, cl, fa_eq, hA, pr_st m, pr_pr, pr_at]
        refine ⟨by omega, ?_⟩
        rw [pr_st, pr_pr, pr_at]
        refine r_grows hA hA2 hT ?_ ?_
        · rw [pr_ne _ _ hne, pr_at, upd_ne _ _ (by decide)]; exact hth
        · rw [pr_ne _ _ hne, pr_at, upd_same, pr_pr, pr_at]
          exact h2
      simp (disch := omega) only [nI_ofNat, cmp_le, pk_mul, nI_add, vp_nI, cl, fa_eq, hA, pr_at]
      have e47 : rPut (m.1 A) t 6 (25 + 49 * t + 47) = m.1 A (rAt t + 47) := if_neg (by omega)
      rw [e47]
      refine ⟨fun _ => ⟨by omega, fun e => hend _ ?_, fun e => hend _ ?_⟩, fun e => absurd (Nat.le_refl _) e⟩
      · exact (if_neg e).symm
      · exact (if_pos e).symm
    | succ k ih =>
      intro j hj
      have nx := ih (j + 1) (by omega)
      unfold wb_X12_commit_91
      simp (disch := omega) only [nI_ofNat, cmp_le, fa_eq, nI_add]
      refine ⟨fun e => absurd e (by omega), fun _ => r_sees hA ht (by omega) ?_⟩
      simp (disch := omega) only [vp_nI, hA, cl]
      refine ⟨by omega, ?_⟩
      have e : upd (rPut (m.1 A) t j) j (rSees (rPut (m.1 A) t j) t j) = rPut (m.1 A) t (j + 1) := by
        rw [rSees_put (by omega) (Nat.le_refl _) (by omega)]
        funext c
        simp only [upd, rPut]
        by_cases h1 : c = j
        · subst h1; rw [if_pos rfl, if_pos (by omega)]
        · rw [if_neg h1]
          by_cases h2 : c < j
          · rw [if_pos h2, if_pos (by omega)]
          · rw [if_neg h2, if_neg (by omega)]
      rw [pr_st, pr_pr, pr_at, e]
      exact nx
  have inv : rValid (m.1 A) t → ∀ (k j : Nat), j + k = n → (∀ q, q < j → m.1 A (13 + 3 * q + 2) ≤ rSees (m.1 A) t (m.1 A (13 + 3 * q)).toNatClampNeg + rSees (m.1 A) t (m.1 A (13 + 3 * q + 1)).toNatClampNeg) → wb_X12_commit_16 Q (k + 1) 1023 A (nI t) (nI j) m := by
    intro hv k
    induction k with
    | zero =>
      intro j hj hq
      have : j = n := by omega
      subst this
      unfold wb_X12_commit_16 wp_X12_at
      simp (disch := omega) only [nI_ofNat, pk_mul, nI_add, vp_nI, cl, fa_eq, hA, hi12, cmp_le]
      refine ⟨by omega, fun _ => ⟨by omega, 7, ?_⟩, fun e => absurd (Nat.le_refl _) e⟩
      have := put hv hq 6 0 rfl
      have e0 : rPut (m.1 A) t 0 = m.1 A := by funext c; exact if_neg (by omega)
      rw [e0, pr_idne m _ _ (by omega)] at this
      exact this
    | succ k ih =>
      intro j hj hq
      obtain ⟨i1, j1, hi1, hj1, e1, e2⟩ := hik j (by omega)
      unfold wb_X12_commit_16
      simp (disch := omega) only [nI_ofNat, pk_mul, nI_add, vp_nI, cl, fa_eq, hA, hi12, cmp_le, e1, e2]
      refine ⟨by omega, fun e => absurd e (by omega), fun _ => ⟨by omega, ?_⟩⟩
      refine r_sees hA ht hi1 ?_
      rw [e2]
      refine ⟨by omega, ?_⟩
      refine r_sees hA ht hj1 ?_
      refine ⟨by omega, fun e => ?_, fun e => ?_⟩
      · refine ih (j + 1) (by omega) (fun q hq2 => ?_)
        by_cases eq : q = j
        · subst eq; rw [e1, e2, cl (by omega), cl (by omega)]; exact e
        · exact hq q (by omega)
      · refine r_stop hA ht (h1 hv fun hall => e ?_)
        have := hall j (by omega)
        rw [e1, e2, cl (by omega), cl (by omega)] at this
        exact this
  unfold wp_X12_commit
  refine r_valid hA ht (fun hv => ⟨fun _ => ⟨n + 1, inv hv n 0 (by omega) (fun q hq => absurd hq (by omega))⟩, fun e => absurd e (by decide)⟩) (fun hv => ⟨fun e => absurd rfl e, fun _ => r_restart hA ht (h0 hv)⟩)
