/-! the class's check of a text, as an automaton: expected, values read, threads read, depth, awaited signs -/
abbrev Aut : Type := Nat × Nat × Nat × Nat × (Nat → Nat)
def awSet (aw : Nat → Nat) (k x : Nat) : Nat → Nat := fun i => if i = k then x else aw i
def aTok (vr tr d : Nat) (aw : Nat → Nat) (x : Nat) : Option Aut :=
  if x = 114 ∨ x = 119 then some (5, vr, tr, d, aw)
  else if x = 43 ∨ x = 45 ∨ x = 63 then some (6, vr, tr, d, aw)
  else if x = 33 ∨ x = 120 then some (4, vr, tr, d, aw)
  else if x = 40 then (if d < 3 then some (4, vr, tr, d + 1, awSet aw d 124) else none)
  else if x = 123 then (if d < 3 then some (4, vr, tr, d + 1, awSet aw d 125) else none)
  else if x = 124 then (if 0 < d ∧ aw (d - 1) = 124 then some (4, vr, tr, d, awSet aw (d - 1) 41) else none)
  else if x = 41 ∨ x = 125 then (if 0 < d ∧ aw (d - 1) = x then some (4, vr, tr, d - 1, aw) else none)
  else if x = 46 then (if d = 0 then some (2, vr, tr + 1, 0, aw) else none)
  else none
def ASr (m : ct_M) (e vr tr d : Nat) (aw : Nat → Nat) : Prop := m.1 3 0 = nI e ∧ m.1 3 1 = nI vr ∧ m.1 3 2 = nI tr ∧ m.1 3 3 = nI d ∧ d ≤ 3 ∧ ∀ k, k < d → aw k < 256 ∧ m.1 4 k = nI (aw k)
def AFr (m m' : ct_M) : Prop := m'.2 = m.2 ∧ ∀ q, q ≠ 3 → q ≠ 4 → m'.1 q = m.1 q
theorem AFr.rf {m : ct_M} : AFr m m := ⟨rfl, fun _ _ _ => rfl⟩
theorem AFr.tr {m m' m'' : ct_M} (h : AFr m m') (h2 : AFr m' m'') : AFr m m'' := ⟨h2.1.trans h.1, fun q a b => (h2.2 q a b).trans (h.2 q a b)⟩
theorem AFr.st {m : ct_M} {j : Nat} {x : Int32} : AFr m (ct_st m 3 j x) := ⟨rfl, fun _ a _ => ct_st_ne a⟩
theorem AFr.st4 {m : ct_M} {j : Nat} {x : Int32} : AFr m (ct_st m 4 j x) := ⟨rfl, fun _ _ a => ct_st_ne a⟩
theorem ASr_e {m : ct_M} {e vr tr d e' : Nat} {aw : Nat → Nat} (h : ASr m e vr tr d aw) : ASr (ct_st m 3 0 (nI e')) e' vr tr d aw := by
  obtain ⟨h1, h2, h3, h4, h5, h6⟩ := h
  refine ⟨by rw [ct_st_eq, upd_same], by rw [ct_st_eq, upd_ne _ _ (by decide)]; exact h2, by rw [ct_st_eq, upd_ne _ _ (by decide)]; exact h3, by rw [ct_st_eq, upd_ne _ _ (by decide)]; exact h4, h5, fun k hk => by rw [ct_st_ne (by decide)]; exact h6 k hk⟩
theorem char3 : vp_nar .char (124 : Int32) = nI 124 ∧ vp_nar .char (125 : Int32) = nI 125 ∧ vp_nar .char (41 : Int32) = nI 41 := by decide +kernel
theorem ln4 : ct_ln (3 + 1) = 3 := by decide +kernel
theorem a_opens {e vr tr d y : Nat} {aw : Nat → Nat} {p : Int32} {Q : Int32 → ct_M → Prop} {m : ct_M} (h : ASr m e vr tr d aw) (hy : vp_nar .char p = nI y) (hy2 : y < 256) (h1 : d < 3 → ∀ m', AFr m m' → ASr m' e vr tr (d + 1) (awSet aw d y) → Q 1 m') (h0 : ¬ d < 3 → Q 0 m) : wp_X7_opens 3 p Q m := by
  obtain ⟨g1, g2, g3, g4, g5, g6⟩ := h
  unfold wp_X7_opens
  rw [g4, hy]
  simp (disch := omega) only [vp_nI, cl, ln4]
  refine ⟨fun z => absurd z (nI_pos (by omega)), fun _ => ⟨fun z => ?_, fun z => h0 fun y => z ((cmp_lt (b := 3) (by omega) (by decide)).mpr y)⟩⟩
  have hd : d < 3 := (cmp_lt (b := 3) (by omega) (by decide)).mp z
  refine ⟨hd, ?_⟩
  intro m4 e4 m5 e5
  have s4 : m4.1 3 = m.1 3 := by subst e4; exact ct_st_ne (by decide)
  rw [s4, g4, nI_ofNat 1, nI_add] at e5
  refine h1 hd m5 (by subst e5 e4; exact AFr.tr AFr.st4 AFr.st) ⟨?_, ?_, ?_, ?_, by omega, fun k hk => ?_⟩
  · subst e5; rw [ct_st_eq, upd_ne _ _ (by decide), s4]; exact g1
  · subst e5; rw [ct_st_eq, upd_ne _ _ (by decide), s4]; exact g2
  · subst e5; rw [ct_st_eq, upd_ne _ _ (by decide), s4]; exact g3
  · subst e5; rw [ct_st_eq, upd_same]
  · have e44 : m5.1 4 = upd (m.1 4) d (nI y) := by subst e5 e4; rw [ct_st_ne (by decide)]; exact ct_st_eq
    rw [e44]
    unfold awSet
    by_cases ek : k = d
    · subst ek; rw [if_pos rfl, upd_same]; exact ⟨hy2, rfl⟩
    · rw [if_neg ek, upd_ne _ _ ek]; exact g6 k (by omega)
theorem a_closes {e vr tr d y : Nat} {aw : Nat → Nat} {Q : Int32 → ct_M → Prop} {m : ct_M} (h : ASr m e vr tr d aw) (hy : y < 256) (h1 : 0 < d → aw (d - 1) = y → ∀ m', AFr m m' → ASr m' e vr tr (d - 1) aw → Q 1 m') (h0 : ¬ (0 < d ∧ aw (d - 1) = y) → Q 0 m) : wp_X7_closes 3 (nI y) Q m := by
  obtain ⟨g1, g2, g3, g4, g5, g6⟩ := h
  unfold wp_X7_closes
  rw [g4]
  refine ⟨fun z => h0 fun w => ?_, fun z => ⟨fun z2 => ?_, fun _ => ?_⟩⟩
  · have := (cmp_lt (b := 1) (by omega) (by decide)).mp z
    omega
  · exfalso
    have := (cmp_lt (a := 3) (by decide) (by omega)).mp z2
    omega
  · have hd : 0 < d := by
      refine Nat.pos_of_ne_zero fun w => z ?_
      rw [w]; decide
    have e1 : nI d - 1 = nI (d - 1) := by
      have := nI_pred (d - 1)
      rw [show d - 1 + 1 = d by omega] at this
      exact this
    rw [e1]
    simp (disch := omega) only [vp_nI, cl, ln4, show 3 + 1 = 4 from rfl]
    obtain ⟨a1, a2⟩ := g6 (d - 1) (by omega)
    rw [a2]
    refine ⟨by omega, fun w => ?_, fun w => h0 fun w2 => w (by rw [w2.2])⟩
    intro m5 e5
    refine h1 hd (nI_inj (by omega) (by omega) w) m5 (by subst e5; exact AFr.st) ⟨?_, ?_, ?_, ?_, by omega, fun k hk => ?_⟩
    · subst e5; rw [ct_st_eq, upd_ne _ _ (by decide)]; exact g1
    · subst e5; rw [ct_st_eq, upd_ne _ _ (by decide)]; exact g2
    · subst e5; rw [ct_st_eq, upd_ne _ _ (by decide)]; exact g3
    · subst e5; rw [ct_st_eq, upd_same]
    · subst e5; rw [ct_st_ne (by decide)]; exact g6 k (by omega)
theorem eqI {x : Nat} (hx : x < 256) (k : Nat) (hk : k < 256) : (nI x = nI k) ↔ x = k := cmp_eq (by omega) (by omega)
/-- one sign at a token's place -/
theorem a_takesToken {vr tr d x : Nat} {aw : Nat → Nat} {Q : Int32 → ct_M → Prop} {m : ct_M} (h : ASr m 4 vr tr d aw) (hx : x < 256)
    (h1 : ∀ e' vr' tr' d' aw', aTok vr tr d aw x = some (e', vr', tr', d', aw') → ∀ m', AFr m m' → ASr m' e' vr' tr' d' aw' → ct_okZ 1 ∧ Q 1 m') (h0 : aTok vr tr d aw x = none → ∀ m', AFr m m' → ct_okZ 0 ∧ Q 0 m') : wp_X7_takesToken 3 (nI x) (fun (r17 : Int32) (m16 : ct_M) => (ct_okZ r17 ∧ Q r17 m16)) m := by
  have E := fun k hk => eqI hx k hk
  have wc : (x = 114 ∨ x = 119) → wp_X7_takesToken 3 (nI x) (fun (r17 : Int32) (m16 : ct_M) => (ct_okZ r17 ∧ Q r17 m16)) m := by
    intro c
    have go : ∀ m33 : ct_M, m33 = ct_st m 3 0 (5 : Int32) → ct_okZ 1 ∧ Q 1 m33 := fun m33 e => by
      subst e
      exact h1 5 vr tr d aw (by unfold aTok; rw [if_pos c]) _ AFr.st (ASr_e h)
    unfold wp_X7_takesToken wp_X7_wantsCell wb_X7_wantsCell_12
    refine ⟨fun _ => ⟨fun z => absurd z (by decide), fun _ => go⟩, fun z => ⟨fun z2 => ?_, fun _ => ⟨fun z => absurd z (by decide), fun _ => go⟩⟩⟩
    exfalso
    rcases c with c | c
    · exact z (by rw [c]; rfl)
    · exact z2 (by rw [c]; rfl)
  by_cases c1 : x = 114 ∨ x = 119
  · exact wc c1
  · have n1 : ¬ nI x = (114 : Int32) := fun z => c1 (Or.inl ((E 114 (by omega)).mp z))
    have n2 : ¬ nI x = (119 : Int32) := fun z => c1 (Or.inr ((E 119 (by omega)).mp z))
    unfold wp_X7_takesToken wp_X7_wantsCell
    refine ⟨fun z => absurd z n1, fun _ => ⟨fun _ => ⟨fun _ => ?_, fun z => absurd rfl z⟩, fun z => absurd z n2⟩⟩
    unfold wp_X7_wantsNumber wb_X7_wantsNumber_18
    by_cases c2 : x = 43 ∨ x = 45 ∨ x = 63
    · have go : ∀ m33 : ct_M, m33 = ct_st m 3 0 (6 : Int32) → ct_okZ 1 ∧ Q 1 m33 := fun m33 e => by
        subst e
        exact h1 6 vr tr d aw (by unfold aTok; rw [if_neg c1, if_pos c2]) _ AFr.st (ASr_e h)
      refine ⟨fun _ => ⟨fun z => absurd z (by decide), fun _ => go⟩, fun z => ⟨fun _ => ⟨fun z => absurd z (by decide), fun _ => go⟩, fun z2 => ⟨fun z3 => ?_, fun _ => ⟨fun z => absurd z (by decide), fun _ => go⟩⟩⟩⟩
      exfalso
      rcases c2 with c | c | c
      · exact z (by rw [c]; rfl)
      · exact z2 (by rw [c]; rfl)
      · exact z3 (by rw [c]; rfl)
    · have n3 : ¬ nI x = (43 : Int32) := fun z => c2 (Or.inl ((E 43 (by omega)).mp z))
      have n4 : ¬ nI x = (45 : Int32) := fun z => c2 (Or.inr (Or.inl ((E 45 (by omega)).mp z)))
      have n5 : ¬ nI x = (63 : Int32) := fun z => c2 (Or.inr (Or.inr ((E 63 (by omega)).mp z)))
      refine ⟨fun z => absurd z n3, fun _ => ⟨fun z => absurd z n4, fun _ => ⟨fun _ => ⟨fun _ => ?_, fun z => absurd rfl z⟩, fun z => absurd z n5⟩⟩⟩
      have pl : x = 33 ∨ x = 120 → ct_okZ 1 ∧ Q 1 m := fun c => h1 4 vr tr d aw (by unfold aTok; rw [if_neg c1, if_neg c2, if_pos c]) m AFr.rf h
      refine ⟨fun z => pl (Or.inl ((E 33 (by omega)).mp z)), fun m33 => ⟨fun z => ?_, fun m40 => ⟨fun z => ?_, fun m41 => ⟨fun z => ?_, fun m46 => ⟨fun z => pl (Or.inr ((E 120 (by omega)).mp z)), fun m120 => ⟨fun z => ?_, fun m123 => ⟨fun z => ?_, fun m124 => ⟨fun z => ?_, fun m125 => ?_⟩⟩⟩⟩⟩⟩⟩⟩
      · have c := (E 40 (by omega)).mp z
        subst c
        refine a_opens h char3.1 (by omega) (fun hd m' f r => ⟨okZ1, h1 _ _ _ _ _ ?_ m' f r⟩) (fun hd => ⟨okZ0, h0 ?_ m AFr.rf⟩)
        · simp [aTok, hd]
        · simp [aTok, hd]
      · have c := (E 41 (by omega)).mp z
        subst c
        refine a_closes h (by omega) (fun hd ha m' f r => ⟨okZ1, h1 _ _ _ _ _ ?_ m' f r⟩) (fun hd => ⟨okZ0, h0 ?_ m AFr.rf⟩)
        · simp [aTok, hd, ha]
        · simp only [aTok]; simp [hd]
      · have c := (E 46 (by omega)).mp z
        subst c
        intro m15 e15 m16 e16
        have g := ASr_e (e' := 2) h
        have hm15 : ASr m15 2 vr tr d aw := by subst e15; exact g
        have hm16 : ASr m16 2 vr (tr + 1) d aw := by
          obtain ⟨g1, g2, g3, g4, g5, g6⟩ := hm15
          rw [g3, nI_ofNat 1, nI_add] at e16
          subst e16
          exact ⟨by rw [ct_st_eq, upd_ne _ _ (by decide)]; exact g1, by rw [ct_st_eq, upd_ne _ _ (by decide)]; exact g2, by rw [ct_st_eq, upd_same], by rw [ct_st_eq, upd_ne _ _ (by decide)]; exact g4, g5, fun k hk => by rw [ct_st_ne (by decide)]; exact g6 k hk⟩
        have f : AFr m m16 := by subst e16 e15; exact AFr.tr AFr.st AFr.st
        rw [hm16.2.2.2.1]
        refine ⟨fun w => h0 ?_ m16 f, fun w => ?_⟩
        · have : ¬ d = 0 := fun y => w (by rw [y]; rfl)
          simp [aTok, this]
        · have : d = 0 := by
            have := (cmp_eq (b := 0) (by have := hm16.2.2.2.2.1; omega) (by decide)).mp w
            exact this
          subst this
          exact h1 _ _ _ _ _ (by simp [aTok]) m16 f hm16
      · have c := (E 123 (by omega)).mp z
        subst c
        refine a_opens h char3.2.1 (by omega) (fun hd m' f r => ⟨okZ1, h1 _ _ _ _ _ ?_ m' f r⟩) (fun hd => ⟨okZ0, h0 ?_ m AFr.rf⟩)
        · simp [aTok, hd]
        · simp [aTok, hd]
      · have c := (E 124 (by omega)).mp z
        subst c
        refine a_closes (y := 124) h (by omega) (fun hd ha m' f r => ⟨fun w => absurd w (by decide), fun _ => ?_⟩) (fun hd => ⟨fun _ => h0 ?_ m AFr.rf, fun w => absurd rfl w⟩)
        · refine a_opens r char3.2.2 (by omega) (fun hd2 m2 f2 r2 => ⟨fun w => absurd w (by decide), fun _ => h1 4 vr tr d (awSet aw (d - 1) 41) ?_ m2 (f.tr f2) ?_⟩) (fun hd2 => absurd (by have := h.2.2.2.2.1; omega) hd2)
          · simp [aTok, hd, ha]
          · rw [show d - 1 + 1 = d by omega] at r2; exact r2
        · simp only [aTok]; simp [hd]
      · have c := (E 125 (by omega)).mp z
        subst c
        refine a_closes h (by omega) (fun hd ha m' f r => ⟨okZ1, h1 _ _ _ _ _ ?_ m' f r⟩) (fun hd => ⟨okZ0, h0 ?_ m AFr.rf⟩)
        · simp [aTok, hd, ha]
        · simp only [aTok]; simp [hd]
      · refine h0 ?_ m AFr.rf
        have q33 : ¬ x = 33 := fun y => m33 (by rw [y]; rfl)
        have q40 : ¬ x = 40 := fun y => m40 (by rw [y]; rfl)
        have q41 : ¬ x = 41 := fun y => m41 (by rw [y]; rfl)
        have q46 : ¬ x = 46 := fun y => m46 (by rw [y]; rfl)
        have q120 : ¬ x = 120 := fun y => m120 (by rw [y]; rfl)
        have q123 : ¬ x = 123 := fun y => m123 (by rw [y]; rfl)
        have q124 : ¬ x = 124 := fun y => m124 (by rw [y]; rfl)
        have q125 : ¬ x = 125 := fun y => m125 (by rw [y]; rfl)
        unfold aTok
        rw [if_neg c1, if_neg c2, if_neg (by omega), if_neg q40, if_neg q123, if_neg q124, if_neg (by omega), if_neg q46]
