/-- the class's answer from a place on -/
def aErr (x : Nat → Nat) : Nat → Nat → Aut → Int32
  | 0, j, s => if s.1 = 2 ∧ 0 < s.2.2.1 then -9 else nI j
  | n + 1, j, s => match aStep s (x j) with
    | some s' => aErr x n (j + 1) s'
    | none => nI j
theorem aTok_bd {vr tr d x : Nat} {aw : Nat → Nat} {s' : Aut} (h : aTok vr tr d aw x = some s') : s'.1 ≤ 6 ∧ s'.2.1 ≤ vr + 1 ∧ s'.2.2.1 ≤ tr + 1 := by
  unfold aTok at h
  (repeat' split at h) <;> first | (cases h; done) | (cases h; exact ⟨by simp, by simp, by simp⟩)
theorem aStep_bd {s s' : Aut} {x : Nat} (h : aStep s x = some s') : s'.1 ≤ 6 ∧ s'.2.1 ≤ s.2.1 + 1 ∧ s'.2.2.1 ≤ s.2.2.1 + 1 := by
  obtain ⟨e, vr, tr, d, aw⟩ := s
  simp only [aStep] at h
  by_cases c4 : e = 4
  · subst c4
    have : aTok vr tr d aw x = some s' := h
    exact aTok_bd this
  · (repeat' split at h) <;> first | (cases h; done) | (cases h; exact ⟨by simp, by simp, by simp⟩) | (exfalso; omega) | skip
    all_goals (cases h; refine ⟨?_, by simp, by simp⟩; show (if vr + 1 < 6 then 1 else 2) ≤ 6; split <;> omega)
theorem c_firstError {L : Nat} {x : Nat → Nat} {Q : Int32 → ct_M → Prop} {m : ct_M} (hL : L ≤ 60) (h1 : m.1 1 1 = nI L) (hx : ∀ k, k < L → x k < 256 ∧ m.1 2 k = nI (x k)) (h : ∀ m', AFr m m' → Q (aErr x L 0 (0, 0, 0, 0, fun _ => 0)) m') : wp_X8_firstError (0 + 1) Q m := by
  have l2 : ct_ln (0 + 1 + 1) = 60 := by decide +kernel
  have comp : ∀ (m1 : ct_M) (s : Aut), AFr m m1 → AS m1 s → (aErr x 0 L s = aErr x L 0 (0, 0, 0, 0, fun _ => 0)) → wb_X8_firstError_47 Q (0 + 1) m1 := by
    intro m1 s f1 r1 ea
    obtain ⟨e, vr, tr, d, aw⟩ := s
    obtain ⟨⟨a1, a2, a3, a4, a5, a6⟩, b1, b2, b3⟩ := r1
    have a1 : m1.1 3 0 = nI e := a1
    have a3 : m1.1 3 2 = nI tr := a3
    have b1 : e ≤ 6 := b1
    have b3 : tr ≤ 100 := b3
    have hq := h m1 f1
    rw [← ea] at hq
    have hq : Q (if e = 2 ∧ 0 < tr then -9 else nI L) m1 := hq
    have hL1 : m1.1 1 1 = nI L := by rw [f1.2 _ (by decide) (by decide)]; exact h1
    unfold wb_X8_firstError_47 wp_X7_isComplete
    rw [show m1.1 (0 + 1 + 2) 0 = nI e from a1, show m1.1 (0 + 1 + 2) 2 = nI tr from a3]
    refine ⟨fun z => ⟨fun _ => ?_, fun w => absurd rfl w⟩, fun z => ⟨fun z2 => ⟨fun _ => ?_, fun w => absurd rfl w⟩, fun z2 => ⟨fun w => absurd w (by decide), fun _ => ?_⟩⟩⟩
    · rw [if_neg (fun y => z (by rw [y.1]; rfl))] at hq; rw [show m1.1 (0 + 1) 1 = nI L from hL1]; exact hq
    · have : tr = 0 := by have := (cmp_le (b := 0) (by omega) (by decide)).mp z2; omega
      rw [if_neg (by omega)] at hq; rw [show m1.1 (0 + 1) 1 = nI L from hL1]; exact hq
    · have h2 : e = 2 := (cmp_eq (b := 2) (by omega) (by decide)).mp z
      have h3 : 0 < tr := by
        refine Nat.pos_of_ne_zero fun y => z2 ?_
        rw [y]; decide
      rw [if_pos ⟨h2, h3⟩] at hq; exact hq
  have loop : ∀ (n j : Nat) (m1 : ct_M) (s : Aut), j + n = L → AFr m m1 → AS m1 s → s.2.1 ≤ j → s.2.2.1 ≤ j → aErr x n j s = aErr x L 0 (0, 0, 0, 0, fun _ => 0) → wb_X8_firstError_9 Q (n + 1) (0 + 1) (nI j) m1 := by
    intro n
    induction n with
    | zero =>
      intro j m1 s hj f1 r1 _ _ ea
      have : j = L := by omega
      subst this
      have hL1 : m1.1 (0 + 1) 1 = nI j := by rw [show 0 + 1 = 1 from rfl, f1.2 _ (by decide) (by decide)]; exact h1
      unfold wb_X8_firstError_9
      rw [hL1]
      exact ⟨fun _ => comp m1 s f1 r1 ea, fun z => absurd ((cmp_le (by omega) (by omega)).mpr (Nat.le_refl _)) z⟩
    | succ n ih =>
      intro j m1 s hj f1 r1 v1 v2 ea
      have hL1 : m1.1 (0 + 1) 1 = nI L := by rw [show 0 + 1 = 1 from rfl, f1.2 _ (by decide) (by decide)]; exact h1
      obtain ⟨x1, x2⟩ := hx j (by omega)
      have e2 : m1.1 (0 + 1 + 1) j = nI (x j) := by rw [show 0 + 1 + 1 = 2 from rfl, f1.2 _ (by decide) (by decide)]; exact x2
      unfold wb_X8_firstError_9
      rw [hL1]
      refine ⟨fun z => absurd ((cmp_le (by omega) (by omega)).mp z) (by omega), fun _ => ⟨fun z => absurd ((cmp_le (a := 60) (by omega) (by omega)).mp z) (by omega), fun _ => ?_⟩⟩
      simp (disch := omega) only [vp_nI, cl, l2]
      rw [e2]
      refine ⟨by omega, a_takes r1 x1 (fun s' hs' m2 f2 r2 => ⟨fun _ => ?_, fun z => absurd z (by decide)⟩) (fun hn m2 f2 => ⟨fun z => absurd rfl z, fun _ => ?_⟩)⟩
      · have ea' : aErr x (n + 1) j s = aErr x n (j + 1) s' := by
          show (match aStep s (x j) with | some s' => aErr x n (j + 1) s' | none => nI j) = _
          rw [hs']
        rw [ea'] at ea
        intro y hy
        obtain ⟨b1, b2, b3⟩ := aStep_bd hs'
        rw [hy, nI_ofNat 1, nI_add]
        exact ih (j + 1) m2 s' (by omega) (f1.tr f2) ⟨r2, b1, by omega, by omega⟩ (by omega) (by omega) ea
      · have ea' : aErr x (n + 1) j s = nI j := by
          show (match aStep s (x j) with | some s' => aErr x n (j + 1) s' | none => nI j) = _
          rw [hn]
        rw [ea'] at ea
        rw [ea]; exact h m2 (f1.tr f2)
  unfold wp_X8_firstError wp_X7_begin
  intro m1 e1 m2 e2 m3 e3 m4 e4
  refine ⟨L + 1, loop L 0 m4 (0, 0, 0, 0, fun _ => 0) (by omega) ?_ ⟨⟨?_, ?_, ?_, ?_, by decide, fun k hk => absurd hk (Nat.not_lt_zero k)⟩, by decide, by decide, by decide⟩ (by decide) (by decide) rfl⟩
  · subst e4 e3 e2 e1
    exact ((AFr.st.tr AFr.st).tr AFr.st).tr AFr.st
  · subst e4 e3 e2 e1
    rw [show 0 + 1 + 2 = 3 from rfl, ct_st_eq, upd_ne _ _ (by decide), ct_st_eq, upd_ne _ _ (by decide), ct_st_eq, upd_ne _ _ (by decide), ct_st_eq, upd_same]; rfl
  · subst e4 e3 e2 e1
    rw [show 0 + 1 + 2 = 3 from rfl, ct_st_eq, upd_ne _ _ (by decide), ct_st_eq, upd_ne _ _ (by decide), ct_st_eq, upd_same]; rfl
  · subst e4 e3 e2 e1
    rw [show 0 + 1 + 2 = 3 from rfl, ct_st_eq, upd_ne _ _ (by decide), ct_st_eq, upd_same]; rfl
  · subst e4 e3 e2 e1
    rw [show 0 + 1 + 2 = 3 from rfl, ct_st_eq, upd_same]; rfl
