/-! the reference: blocks, retrying, abandoning, tokens -/
theorem pr_stpr (m : ct_M) (A j : Nat) (x : Int32) (v : Row) : ct_st (pr m A v) A j x = pr m A (upd v j x) := by rw [pr_st, pr_pr, pr_at]
def rB (t k : Nat) : Nat := rAt t + 17 + 10 * k
def rBring (v : Row) (t b : Nat) : Row := fun i => if rAt t + 9 ≤ i ∧ i < rAt t + 16 then v (b + 3 + (i - (rAt t + 9))) else if i = rAt t + 2 then v (b + 2) else v i
theorem r_bring {A t b : Nat} {Q : ct_M → Prop} {m : ct_M} (hA : ct_ln A = 172) (ht : t < 3) (hb : rAt t + 17 ≤ b) (hb2 : b + 10 ≤ 172) (h : Q (pr m A (rBring (m.1 A) t b))) : wp_X12_bringBack A (nI t) (nI b) Q m := by
  have hr : rAt t = 25 + 49 * t := rfl
  have loop : ∀ (k j : Nat), j + k = 7 → wb_X12_bringBack_15 Q (k + 1) A (nI t) (nI b) (nI j) (pr m A (fun i => if rAt t + 9 ≤ i ∧ i < rAt t + 9 + j then m.1 A (b + 3 + (i - (rAt t + 9))) else if i = rAt t + 2 then m.1 A (b + 2) else m.1 A i)) := by
    intro k
    induction k with
    | zero =>
      intro j hj
      have : j = 7 := by omega
      subst this
      unfold wb_X12_bringBack_15
      exact ⟨fun _ => h, fun e => absurd (by decide) e⟩
    | succ k ih =>
      intro j hj
      have nx := ih (j + 1) (by omega)
      unfold wb_X12_bringBack_15 wp_X12_at
      simp (disch := omega) only [nI_ofNat, cmp_le, pk_mul, nI_add, vp_nI, cl, fa_eq, hA, pr_at, pr_stpr]
      refine ⟨fun e => absurd e (by omega), fun _ => ⟨by omega, by omega, ?_⟩⟩
      have e : upd (fun i => if rAt t + 9 ≤ i ∧ i < rAt t + 9 + j then m.1 A (b + 3 + (i - (rAt t + 9))) else if i = rAt t + 2 then m.1 A (b + 2) else m.1 A i) (25 + 49 * t + 9 + j) (if rAt t + 9 ≤ b + 3 + j ∧ b + 3 + j < rAt t + 9 + j then m.1 A (b + 3 + (b + 3 + j - (rAt t + 9))) else if b + 3 + j = rAt t + 2 then m.1 A (b + 2) else m.1 A (b + 3 + j)) = (fun i => if rAt t + 9 ≤ i ∧ i < rAt t + 9 + (j + 1) then m.1 A (b + 3 + (i - (rAt t + 9))) else if i = rAt t + 2 then m.1 A (b + 2) else m.1 A i) := by
        rw [if_neg (by omega), if_neg (by omega)]
        funext i
        simp only [upd]
        (repeat' split) <;> first | rfl | (exfalso; omega) | (refine congrArg (m.1 A) ?_; omega)
      rw [e]
      exact nx
  unfold wp_X12_bringBack wp_X12_at
  simp (disch := omega) only [nI_ofNat, pk_mul, nI_add, vp_nI, cl, fa_eq, hA]
  refine ⟨by omega, by omega, 8, ?_⟩
  have := loop 7 0 rfl
  have e : (fun i => if rAt t + 9 ≤ i ∧ i < rAt t + 9 + 0 then m.1 A (b + 3 + (i - (rAt t + 9))) else if i = rAt t + 2 then m.1 A (b + 2) else m.1 A i) = upd (m.1 A) (25 + 49 * t + 2) (m.1 A (b + 2)) := by
    funext i
    rw [if_neg (by omega)]
    rfl
  rw [e, ← pr_st] at this
  exact this
def rOpenAt (v : Row) (t k : Nat) (p : Int32) : Row := upd (fun i => if rB t k + 3 ≤ i ∧ i < rB t k + 10 then v (rAt t + 9 + (i - (rB t k + 3))) else if i = rB t k + 2 then v (rAt t + 2) else if i = rB t k + 1 then 0 else if i = rB t k then p else v i) (rAt t + 16) (v (rAt t + 16) + 1)
theorem r_open {A t k : Nat} {p : Int32} {Q : ct_M → Prop} {m : ct_M} (hA : ct_ln A = 172) (ht : t < 3) (hk : k < 3) (ho : m.1 A (rAt t + 16) = nI k) (h : Q (pr m A (rOpenAt (m.1 A) t k p))) : wp_X12_openBlock A (nI t) p Q m := by
  have hr : rAt t = 25 + 49 * t := rfl
  have hB : rB t k = 25 + 49 * t + 17 + 10 * k := rfl
  have loop : ∀ (n j : Nat), j + n = 7 → wb_X12_openBlock_47 Q (n + 1) A (nI t) (nI (rB t k)) (nI j) (pr m A (fun i => if rB t k + 3 ≤ i ∧ i < rB t k + 3 + j then m.1 A (rAt t + 9 + (i - (rB t k + 3))) else if i = rB t k + 2 then m.1 A (rAt t + 2) else if i = rB t k + 1 then 0 else if i = rB t k then p else m.1 A i)) := by
    intro n
    induction n with
    | zero =>
      intro j hj
      have : j = 7 := by omega
      subst this
      unfold wb_X12_openBlock_47 wp_X12_at
      simp (disch := omega) only [nI_ofNat, cmp_le, pk_mul, nI_add, vp_nI, cl, fa_eq, hA, pr_at, pr_stpr]
      refine ⟨fun _ => ⟨by omega, by omega, ?_⟩, fun e => absurd (Nat.le_refl _) e⟩
      have e : (if rB t k + 3 ≤ 25 + 49 * t + 16 ∧ 25 + 49 * t + 16 < rB t k + 3 + 7 then m.1 A (rAt t + 9 + (25 + 49 * t + 16 - (rB t k + 3))) else if 25 + 49 * t + 16 = rB t k + 2 then m.1 A (rAt t + 2) else if 25 + 49 * t + 16 = rB t k + 1 then nI 0 else if 25 + 49 * t + 16 = rB t k then p else m.1 A (25 + 49 * t + 16)) = m.1 A (rAt t + 16) := by
        (repeat' split) <;> first | rfl | (exfalso; omega)
      rw [e]
      exact h
    | succ n ih =>
      intro j hj
      have nx := ih (j + 1) (by omega)
      unfold wb_X12_openBlock_47 wp_X12_at
      simp (disch := omega) only [nI_ofNat, cmp_le, pk_mul, nI_add, vp_nI, cl, fa_eq, hA, pr_at, pr_stpr]
      refine ⟨fun e => absurd e (by omega), fun _ => ⟨by omega, by omega, ?_⟩⟩
      refine cast (congrArg (fun r => wb_X12_openBlock_47 Q (n + 1) A (nI t) (nI (rB t k)) (nI (j + 1)) (pr m A r)) ?_) nx
      funext i
      simp only [upd]
      (repeat' split) <;> first | rfl | (exfalso; omega) | (refine congrArg (m.1 A) ?_; omega)
  unfold wp_X12_openBlock wp_X12_at
  have ho' : m.1 A (25 + 49 * t + 16) = nI k := ho
  simp (disch := omega) only [nI_ofNat, pk_mul, nI_add, vp_nI, cl, fa_eq, hA, ho', pr_st m, pr_stpr, pr_at]
  refine ⟨by omega, by omega, by omega, by omega, by omega, 8, ?_⟩
  have := loop 7 0 rfl
  refine cast (congrArg (fun r => wb_X12_openBlock_47 Q 8 A (nI t) (nI (rB t k)) (nI 0) (pr m A r)) ?_) this
  funext i
  simp only [upd]
  (repeat' split) <;> first | rfl | (exfalso; omega) | (refine congrArg (m.1 A) ?_; omega)
