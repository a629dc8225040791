/-- one sign -/
def aStep (s : Aut) (x : Nat) : Option Aut := match s with
  | (e, vr, tr, d, aw) =>
    if e = 0 then (if x = 77 then some (1, vr, tr, d, aw) else none)
    else if e = 1 then (if 48 ≤ x ∧ x ≤ 57 then some (if vr + 1 < 6 then 1 else 2, vr + 1, tr, d, aw) else none)
    else if e = 2 then (if x = 116 ∧ tr < 3 then some (3, vr, tr, d, aw) else none)
    else if e = 3 then (if x = 49 ∨ x = 50 then some (4, vr, tr, d, aw) else none)
    else if e = 4 then aTok vr tr d aw x
    else if e = 5 then (if 48 ≤ x ∧ x < 54 then some (4, vr, tr, d, aw) else none)
    else (if 48 ≤ x ∧ x ≤ 57 then some (4, vr, tr, d, aw) else none)
theorem aStep_1 {vr tr d x : Nat} {aw : Nat → Nat} : aStep (1, vr, tr, d, aw) x = (if 48 ≤ x ∧ x ≤ 57 then some (if vr + 1 < 6 then 1 else 2, vr + 1, tr, d, aw) else none) := rfl
theorem aStep_2 {vr tr d x : Nat} {aw : Nat → Nat} : aStep (2, vr, tr, d, aw) x = (if x = 116 ∧ tr < 3 then some (3, vr, tr, d, aw) else none) := rfl
theorem aStep_3 {vr tr d x : Nat} {aw : Nat → Nat} : aStep (3, vr, tr, d, aw) x = (if x = 49 ∨ x = 50 then some (4, vr, tr, d, aw) else none) := rfl
theorem aStep_5 {vr tr d x : Nat} {aw : Nat → Nat} : aStep (5, vr, tr, d, aw) x = (if 48 ≤ x ∧ x < 54 then some (4, vr, tr, d, aw) else none) := rfl
theorem aStep_6 {vr tr d x : Nat} {aw : Nat → Nat} : aStep (6, vr, tr, d, aw) x = (if 48 ≤ x ∧ x ≤ 57 then some (4, vr, tr, d, aw) else none) := rfl
def AS (m : ct_M) (s : Aut) : Prop := ASr m s.1 s.2.1 s.2.2.1 s.2.2.2.1 s.2.2.2.2 ∧ s.1 ≤ 6 ∧ s.2.1 ≤ 100 ∧ s.2.2.1 ≤ 100
theorem a_takes {s : Aut} {x : Nat} {Q : Int32 → ct_M → Prop} {m : ct_M} (h : AS m s) (hx : x < 256)
    (h1 : ∀ s', aStep s x = some s' → ∀ m', AFr m m' → ASr m' s'.1 s'.2.1 s'.2.2.1 s'.2.2.2.1 s'.2.2.2.2 → Q 1 m') (h0 : aStep s x = none → ∀ m', AFr m m' → Q 0 m') : wp_X7_takes 3 (nI x) Q m := by
  obtain ⟨e, vr, tr, d, aw⟩ := s
  obtain ⟨hr, he, hv, ht⟩ := h
  have he : e ≤ 6 := he
  have hv : vr ≤ 100 := hv
  have ht : tr ≤ 100 := ht
  have hr : ASr m e vr tr d aw := hr
  have E := fun k hk => eqI hx k hk
  have g0 : m.1 3 0 = nI e := hr.1
  have ee : ∀ k, k < 7 → ((m.1 3 0 = nI k) ↔ e = k) := fun k hk => by rw [g0]; exact cmp_eq (by omega) (by omega)
  have lt : ∀ k, k < 256 → (nI x < nI k ↔ x < k) := fun k hk => cmp_lt (by omega) (by omega)
  have gt : ∀ k, k < 256 → (nI k < nI x ↔ k < x) := fun k hk => cmp_lt (by omega) (by omega)
  have le : ∀ k, k < 256 → (nI k ≤ nI x ↔ k ≤ x) := fun k hk => cmp_le (by omega) (by omega)
  unfold wp_X7_takes
  refine ⟨fun z => ?_, fun z0 => ⟨fun z => ?_, fun z1 => ⟨fun z => ?_, fun z2 => ⟨fun z => ?_, fun z3 => ⟨fun z => ?_, fun z4 => ⟨fun z => ?_, fun z5 => ⟨fun z => ?_, fun z6 => ?_⟩⟩⟩⟩⟩⟩⟩
  · have c := (ee 0 (by omega)).mp z
    subst c
    intro m2 e2
    have r2 := ASr_e (e' := 1) hr
    have f2 : AFr m m2 := by subst e2; exact AFr.st
    have r2' : ASr m2 1 vr tr d aw := by subst e2; exact r2
    refine ⟨fun w => h0 ?_ m2 f2, fun w => h1 (1, vr, tr, d, aw) ?_ m2 f2 r2'⟩
    · have : ¬ x = 77 := fun y => w (by rw [y]; rfl)
      simp [aStep, this]
    · have : x = 77 := (E 77 (by omega)).mp w
      simp [aStep, this]
  · have c := (ee 1 (by omega)).mp z
    subst c
    intro m5 e5
    rw [show m.1 3 1 = nI vr from hr.2.1, nI_ofNat 1, nI_add] at e5
    have f5 : AFr m m5 := by subst e5; exact AFr.st
    have r5 : ASr m5 1 (vr + 1) tr d aw := by
      obtain ⟨q1, q2, q3, q4, q5, q6⟩ := hr
      subst e5
      exact ⟨by rw [ct_st_eq, upd_ne _ _ (by decide)]; exact q1, by rw [ct_st_eq, upd_same], by rw [ct_st_eq, upd_ne _ _ (by decide)]; exact q3, by rw [ct_st_eq, upd_ne _ _ (by decide)]; exact q4, q5, fun k hk => by rw [ct_st_ne (by decide)]; exact q6 k hk⟩
    rw [r5.2.1]
    have fin : ∀ k : Nat, k = (if vr + 1 < 6 then 1 else 2) → wb_X7_takes_90 Q (nI x) (nI k) 3 m5 := by
      intro k hk
      unfold wb_X7_takes_90
      intro m6 e6
      have f6 : AFr m m6 := f5.tr (by subst e6; exact AFr.st)
      have r6 : ASr m6 k (vr + 1) tr d aw := by subst e6; exact ASr_e r5
      refine ⟨fun w => h0 ?_ m6 f6, fun w => ⟨fun w2 => h0 ?_ m6 f6, fun w2 => h1 (k, vr + 1, tr, d, aw) ?_ m6 f6 r6⟩⟩
      · have := (lt 48 (by omega)).mp w
        rw [aStep_1, if_neg (by omega)]
      · have := (gt 57 (by omega)).mp w2
        rw [aStep_1, if_neg (by omega)]
      · have a1 : ¬ x < 48 := fun y => w ((lt 48 (by omega)).mpr y)
        have a2 : ¬ 57 < x := fun y => w2 ((gt 57 (by omega)).mpr y)
        rw [aStep_1, if_pos (by omega), hk]
    refine ⟨fun w => fin 2 ?_, fun w => fin 1 ?_⟩
    · have := (cmp_le (a := 6) (by omega) (by omega)).mp w
      rw [if_neg (by omega)]
    · have : ¬ 6 ≤ vr + 1 := fun y => w ((cmp_le (a := 6) (by omega) (by omega)).mpr y)
      rw [if_pos (by omega)]
  · have c := (ee 2 (by omega)).mp z
    subst c
    intro m8 e8
    have f8 : AFr m m8 := by subst e8; exact AFr.st
    have r8 : ASr m8 3 vr tr d aw := by subst e8; exact ASr_e (e' := 3) hr
    rw [r8.2.2.1]
    refine ⟨fun w => h0 ?_ m8 f8, fun w => ⟨fun w2 => h0 ?_ m8 f8, fun w2 => h1 (3, vr, tr, d, aw) ?_ m8 f8 r8⟩⟩
    · have : ¬ x = 116 := fun y => w (by rw [y]; rfl)
      simp [aStep, this]
    · have := (cmp_le (a := 3) (by omega) (by omega)).mp w2
      rw [aStep_2, if_neg (by omega)]
    · have a1 : x = 116 := (E 116 (by omega)).mp w
      have a2 : ¬ 3 ≤ tr := fun y => w2 ((cmp_le (a := 3) (by omega) (by omega)).mpr y)
      rw [aStep_2, if_pos (by omega)]
  · have c := (ee 3 (by omega)).mp z
    subst c
    intro m12 e12
    have f12 : AFr m m12 := by subst e12; exact AFr.st
    have r12 : ASr m12 4 vr tr d aw := by subst e12; exact ASr_e (e' := 4) hr
    have ok : (x = 49 ∨ x = 50) → Q 1 m12 := fun y => h1 (4, vr, tr, d, aw) (by rw [aStep_3, if_pos y]) m12 f12 r12
    refine ⟨fun w => ok (Or.inl ((E 49 (by omega)).mp w)), fun w => ⟨fun w2 => h0 ?_ m12 f12, fun w2 => ok (Or.inr ((E 50 (by omega)).mp w2))⟩⟩
    have a1 : ¬ x = 49 := fun y => w (by rw [y]; rfl)
    have a2 : ¬ x = 50 := fun y => w2 (by rw [y]; rfl)
    rw [aStep_3, if_neg (by omega)]
  · have c := (ee 4 (by omega)).mp z
    subst c
    have es : aStep (4, vr, tr, d, aw) x = aTok vr tr d aw x := by simp [aStep]
    refine a_takesToken hr hx (fun e' vr' tr' d' aw' ha m' f r => ⟨okZ1, h1 _ (es.trans ha) m' f r⟩) (fun ha m' f => ⟨okZ0, h0 (es.trans ha) m' f⟩)
  · have c := (ee 5 (by omega)).mp z
    subst c
    intro m19 e19
    have f19 : AFr m m19 := by subst e19; exact AFr.st
    have r19 : ASr m19 4 vr tr d aw := by subst e19; exact ASr_e (e' := 4) hr
    refine ⟨fun w => h0 ?_ m19 f19, fun w => ⟨fun w2 => h0 ?_ m19 f19, fun w2 => h1 (4, vr, tr, d, aw) ?_ m19 f19 r19⟩⟩
    · have := (lt 48 (by omega)).mp w
      rw [aStep_5, if_neg (by omega)]
    · have := (le 54 (by omega)).mp w2
      rw [aStep_5, if_neg (by omega)]
    · have a1 : ¬ x < 48 := fun y => w ((lt 48 (by omega)).mpr y)
      have a2 : ¬ 54 ≤ x := fun y => w2 ((le 54 (by omega)).mpr y)
      rw [aStep_5, if_pos (by omega)]
  · have c := (ee 6 (by omega)).mp z
    subst c
    intro m23 e23
    have f23 : AFr m m23 := by subst e23; exact AFr.st
    have r23 : ASr m23 4 vr tr d aw := by subst e23; exact ASr_e (e' := 4) hr
    refine ⟨fun w => h0 ?_ m23 f23, fun w => ⟨fun w2 => h0 ?_ m23 f23, fun w2 => h1 (4, vr, tr, d, aw) ?_ m23 f23 r23⟩⟩
    · have := (lt 48 (by omega)).mp w
      rw [aStep_6, if_neg (by omega)]
    · have := (gt 57 (by omega)).mp w2
      rw [aStep_6, if_neg (by omega)]
    · have a1 : ¬ x < 48 := fun y => w ((lt 48 (by omega)).mpr y)
      have a2 : ¬ 57 < x := fun y => w2 ((gt 57 (by omega)).mpr y)
      rw [aStep_6, if_pos (by omega)]
  · exfalso
    have n0 : e ≠ 0 := fun y => z0 ((ee 0 (by omega)).mpr y)
    have n1 : e ≠ 1 := fun y => z1 ((ee 1 (by omega)).mpr y)
    have n2 : e ≠ 2 := fun y => z2 ((ee 2 (by omega)).mpr y)
    have n3 : e ≠ 3 := fun y => z3 ((ee 3 (by omega)).mpr y)
    have n4 : e ≠ 4 := fun y => z4 ((ee 4 (by omega)).mpr y)
    have n5 : e ≠ 5 := fun y => z5 ((ee 5 (by omega)).mpr y)
    have n6 : e ≠ 6 := fun y => z6 ((ee 6 (by omega)).mpr y)
    omega
