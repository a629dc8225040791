/-! the reference's check of a text, and what it leaves of a whole setup -/
def IsSetup (L : Nat) (x : Nat → Nat) (T : Nat) (P : Nat → Nat) (S : Nat → PQ) : Prop := 7 ≤ L ∧ x 0 = 77 ∧ (∀ c, c < 6 → 48 ≤ x (1 + c) ∧ x (1 + c) ≤ 57) ∧ 0 < T ∧ T ≤ 3 ∧ P 0 = 7 ∧ P T = L ∧ ∀ s, s < T → GoodT L x s (P s) ∧ pThr L x (P s) = some (S s) ∧ P (s + 1) = (S s).1 + 1
def MSt (m : ct_M) (x : Nat → Nat) (t : Nat) (P : Nat → Nat) (S : Nat → PQ) : Prop := ∀ s, s < t → m.1 1038 s = nI (x (P s + 1) - 48) ∧ m.1 1039 s = nI (S s).2.1 ∧ ∀ k, k < 4 → ∀ j, j < (S s).2.1 → m.1 (1040 + k) (60 * s + j) = (S s).2.2.2.2.2 k j
def MSet (m : ct_M) (x : Nat → Nat) (T : Nat) (P : Nat → Nat) (S : Nat → PQ) : Prop := m.1 1023 19 = nI T ∧ (∀ c, c < 6 → m.1 1037 c = nI (x (1 + c) - 48)) ∧ MSt m x T P S
def FrE (m m' : ct_M) : Prop := m'.2 = m.2 ∧ (∀ c, (c < 1023 ∨ (1023 < c ∧ c < 1037) ∨ 1045 ≤ c) → m'.1 c = m.1 c) ∧ ∀ j, j ≠ 0 → j ≠ 3 → j ≠ 19 → j ≠ 28 → m'.1 1023 j = m.1 1023 j
theorem aStep_0 {vr tr d x : Nat} {aw : Nat → Nat} : aStep (0, vr, tr, d, aw) x = (if x = 77 then some (1, vr, tr, d, aw) else none) := rfl
theorem FrE.rf {m : ct_M} : FrE m m := ⟨rfl, fun _ _ => rfl, fun _ _ _ _ _ => rfl⟩
theorem FrE.tr {m m' m'' : ct_M} (h : FrE m m') (g : FrE m' m'') : FrE m m'' := ⟨g.1.trans h.1, fun c hc => (g.2.1 c hc).trans (h.2.1 c hc), fun j a b c d => (g.2.2 j a b c d).trans (h.2.2 j a b c d)⟩
theorem FrT.E {t : Nat} {m m' : ct_M} (h : FrT t m m') : FrE m m' := ⟨h.1, fun c hc => h.2.1 c (by omega), fun j _ b c d => h.2.2.1 j b c d⟩
theorem FrE.o {j : Nat} {m : ct_M} {x : Int32} (hj : j = 0 ∨ j = 3 ∨ j = 19) : FrE m (ct_st m 1023 j x) := ⟨rfl, fun c hc => ct_st_ne (by omega), fun i a b c d => by rw [ct_st_eq, upd_ne _ _ (by omega)]⟩
theorem FrE.v {j : Nat} {m : ct_M} {x : Int32} : FrE m (ct_st m 1037 j x) := ⟨rfl, fun c hc => ct_st_ne (by omega), fun i a b c d => by rw [ct_st_ne (by decide)]⟩
theorem RTx.keepE {L : Nat} {x : Nat → Nat} {m m' : ct_M} (h : RTx L x m) (f : FrE m m') : RTx L x m' :=
  ⟨by rw [f.2.2 2 (by decide) (by decide) (by decide) (by decide)]; exact h.1, fun k hk => by rw [f.2.1 1024 (by omega)]; exact h.2 k hk⟩
theorem pThr_some {x : Nat → Nat} {L p : Nat} {S : PQ} (hL : L ≤ 60) (hx : ∀ k, k < L → x k < 256) (hp : p + 2 ≤ L) (h : pThr L x p = some S) : PI0 L S ∧ PJ S ∧ S.1 < L ∧ x S.1 = 46 ∧ S.2.2.1 = 0 ∧ p + 2 ≤ S.1 := pThread_some hL hx (pStart_PI0 hp) pStart_PJ h
theorem MSt.keep {x : Nat → Nat} {t : Nat} {P : Nat → Nat} {S : Nat → PQ} {m m' : ct_M} (h : MSt m x t P S) (f : FrT t m m') (hn : ∀ s, s < t → (S s).2.1 ≤ 60) : MSt m' x t P S := fun s hs => by
  obtain ⟨a, b, c⟩ := h s hs
  refine ⟨by rw [(f.2.2.2.1 s (by omega)).1]; exact a, by rw [(f.2.2.2.1 s (by omega)).2]; exact b, fun k hk j hj => ?_⟩
  rw [f.2.2.2.2 k hk _ (Or.inl (by have := hn s hs; omega))]; exact c k hk j hj
theorem r_err {L : Nat} {x : Nat → Nat} {Q : Int32 → ct_M → Prop} {m : ct_M} (hL : L ≤ 60) (hx : RTx L x m) (h : ∀ m', FrE m m' → (∀ T P S, IsSetup L x T P S → MSet m' x T P S) → Q (aErr x L 0 (0, 0, 0, 0, fun _ => 0)) m') : wp_X12_errorPosition 1023 Q m := by
  have l24 : ct_ln (1023 + 1) = 60 := by decide
  have l37 : ct_ln (1023 + 14) = 6 := by decide
  have hx1 : ∀ k, k < L → x k < 256 := fun k hk => (hx.2 k hk).1
  generalize hA : aErr x L 0 (0, 0, 0, 0, fun _ => 0) = A at h
  -- the threads
  have thr : ∀ (f p t : Nat) (aw : Nat → Nat) (m1 : ct_M), L ≤ p + f → p ≤ L → t ≤ 3 → m1.1 1023 3 = nI p → m1.1 1023 19 = nI t → FrE m m1 → aErr x (L - p) p (2, 6, t, 0, aw) = A → (∀ c, c < 6 → m1.1 1037 c = nI (x (1 + c) - 48)) → (∀ T P S, IsSetup L x T P S → P t = p ∧ t ≤ T ∧ MSt m1 x t P S) → wb_X12_errorPosition_83 Q (f + 1) 1023 m1 := by
    intro f
    have fin : ∀ (k t : Nat) (aw : Nat → Nat) (m1 : ct_M), t ≤ 3 → m1.1 1023 3 = nI L → m1.1 1023 19 = nI t → FrE m m1 → aErr x (L - L) L (2, 6, t, 0, aw) = A → (∀ c, c < 6 → m1.1 1037 c = nI (x (1 + c) - 48)) → (∀ T P S, IsSetup L x T P S → P t = L ∧ t ≤ T ∧ MSt m1 x t P S) → wb_X12_errorPosition_83 Q (k + 1) 1023 m1 := by
      intro k t aw m1 ht p1 t1 f1 ea v1 hs
      have x1 := hx.keepE f1
      rw [Nat.sub_self] at ea
      have ea : (if 2 = 2 ∧ 0 < t then (-9 : Int32) else nI L) = A := ea
      have hQ : Q A m1 := by
        refine h m1 f1 fun T P S hS => ?_
        obtain ⟨s1, s2, s3⟩ := hs T P S hS
        have eT : t = T := by
          refine Nat.le_antisymm s2 (Nat.le_of_not_lt fun z => ?_)
          have := (hS.2.2.2.2.2.2.2 t z).1.2.2.1
          omega
        subst eT
        exact ⟨t1, v1, s3⟩
      unfold wb_X12_errorPosition_83
      rw [x1.1, p1, t1]
      refine ⟨fun _ => ⟨fun z => ?_, fun z => ?_⟩, fun z => absurd ((cmp_le (by omega) (by omega)).mpr (Nat.le_refl _)) z⟩
      · have : 0 < t := by
          refine Nat.pos_of_ne_zero fun y => z ?_
          rw [y]; rfl
        rw [if_pos ⟨rfl, this⟩] at ea
        rw [ea]; exact hQ
      · have : t = 0 := (cmp_eq (b := 0) (by omega) (by decide)).mp z
        rw [if_neg (by omega)] at ea
        rw [ea]; exact hQ
    induction f with
    | zero =>
      intro p t aw m1 hf hpL ht p1 t1 f1 ea v1 hs
      have : p = L := by omega
      subst this
      exact fin 0 t aw m1 ht p1 t1 f1 ea v1 hs
    | succ f ih =>
      intro p t aw m1 hf hpL ht p1 t1 f1 ea v1 hs
      by_cases hp : p < L
      · have x1 := hx.keepE f1
        unfold wb_X12_errorPosition_83
        rw [x1.1, p1]
        refine ⟨fun z => absurd ((cmp_le (by omega) (by omega)).mp z) (by omega), fun _ => ?_⟩
        have small : ∀ T P S, IsSetup L x T P S → ∀ s, s < T → (S s).2.1 ≤ 60 ∧ P s + 2 ≤ (S s).1 := fun T P S hS s hs2 => by
          obtain ⟨a, b, -⟩ := hS.2.2.2.2.2.2.2 s hs2
          obtain ⟨c1, -, c2, -, -, c3⟩ := pThr_some hL hx1 (by have := a.2.2.1; omega) b
          have := c1.2.1
          exact ⟨by omega, c3⟩
        have tT : ∀ T P S, IsSetup L x T P S → t < T := fun T P S hS => by
          obtain ⟨s1, s2, -⟩ := hs T P S hS
          refine Nat.lt_of_le_of_ne s2 fun z => ?_
          have := hS.2.2.2.2.2.2.1
          rw [← z] at this
          omega
        refine r_parseThread (vr := 6) (aw := aw) hL ht x1 hp p1 t1 (fun S' aw' g1 g2 g3 m2 f2 p2 t2 r2 n2 w2 => ⟨fun _ => ?_, fun z => absurd z (by decide)⟩) (fun g1 pos ps g3 m2 f2 p2 => ⟨fun z => absurd rfl z, fun _ => ?_⟩)
        · obtain ⟨c1, -, c2, -, -, c3⟩ := pThr_some hL hx1 (by have := g1.2.2.1; omega) g2
          refine ih (S'.1 + 1) (t + 1) aw' m2 (by omega) (by omega) (by have := g1.1; omega) p2 t2 (f1.tr f2.E) (g3.symm.trans ea) (fun c hc => by rw [f2.2.1 1037 (by omega)]; exact v1 c hc) (fun T P S hS => ?_)
          obtain ⟨s1, s2, s3⟩ := hs T P S hS
          have tl := tT T P S hS
          obtain ⟨q1, q2, q3⟩ := hS.2.2.2.2.2.2.2 t tl
          rw [s1, g2] at q2
          have eS : S' = S t := by cases q2; rfl
          refine ⟨by rw [q3, ← eS], by omega, fun s hs2 => ?_⟩
          by_cases e : s = t
          · subst e
            rw [s1, ← eS]
            exact ⟨r2, n2, w2⟩
          · exact (s3.keep f2 (fun s hs3 => (small T P S hS s (by omega)).1)) s (by omega)
        · rw [p2, ← g3, ea]
          refine h m2 (f1.tr f2.E) fun T P S hS => ?_
          exfalso
          obtain ⟨s1, s2, s3⟩ := hs T P S hS
          obtain ⟨q1, q2, q3⟩ := hS.2.2.2.2.2.2.2 t (tT T P S hS)
          rw [s1] at q1 q2
          exact g1 ⟨q1, _, q2⟩
      · have : p = L := by omega
        subst this
        exact fin (f + 1) t aw m1 ht p1 t1 f1 ea v1 hs
  -- the digits
  have dig : ∀ (n c : Nat) (aw : Nat → Nat) (m1 : ct_M), c + n = 6 → 1 + c ≤ L → m1.1 1023 3 = nI (1 + c) → m1.1 1023 19 = 0 → FrE m m1 → x 0 = 77 → aErr x (L - (1 + c)) (1 + c) (if c < 6 then 1 else 2, c, 0, 0, aw) = A → (∀ i, i < c → m1.1 1037 i = nI (x (1 + i) - 48)) → wb_X12_errorPosition_42 Q (n + 1) 1023 (nI c) m1 := by
    intro n
    induction n with
    | zero =>
      intro c aw m1 hc hcL p1 t1 f1 x0 ea v1
      have : c = 6 := by omega
      subst this
      unfold wb_X12_errorPosition_42
      refine ⟨fun _ => ⟨L + 1, ?_⟩, fun z => absurd (by decide) z⟩
      refine thr L 7 0 aw m1 (by omega) (by omega) (by omega) p1 t1 f1 ea v1 (fun T P S hS => ⟨hS.2.2.2.2.2.1, Nat.zero_le _, fun s hs => absurd hs (Nat.not_lt_zero s)⟩)
    | succ n ih =>
      intro c aw m1 hc hcL p1 t1 f1 x0 ea v1
      have x1 := hx.keepE f1
      rw [if_pos (by omega)] at ea
      unfold wb_X12_errorPosition_42
      refine ⟨fun z => absurd ((cmp_le (a := 6) (by omega) (by omega)).mp z) (by omega), fun _ => ?_⟩
      refine r_number (lo := 0) (hi := 9) hL (by omega) (by omega) (by omega) x1.1 p1 x1.2 (fun a b d => ?_) (fun a => ?_)
      · simp (disch := omega) only [vp_nI, cl, l37]
        refine ⟨by omega, ?_⟩
        intro m6 e6
        have r6 : m6.1 (1023 + 14) c = nI (x (1 + c) - 48) := by subst e6; rw [show 1023 + 14 = 1037 from rfl, ct_st_eq, upd_same]
        rw [r6]
        refine ⟨by omega, fun _ => ?_, fun z => absurd z (nI_n9 (by omega))⟩
        intro x8 e8
        rw [e8, nI_ofNat 1, nI_add]
        have hstep : aStep (1, c, 0, 0, aw) (x (1 + c)) = some (if c + 1 < 6 then 1 else 2, c + 1, 0, 0, aw) := by rw [aStep_1, if_pos (by omega)]
        have ea2 := (aErr_s a hstep).symm.trans ea
        refine ih (c + 1) aw m6 (by omega) (by omega) ?_ ?_ (f1.tr ((FrE.o (Or.inr (Or.inl rfl))).tr (m'' := m6) (by subst e6; exact FrE.v))) x0 ea2 (fun i hi => ?_)
        · subst e6; rw [ct_st_ne (by decide), ct_st_eq, upd_same]
          rfl
        · subst e6; rw [ct_st_ne (by decide), ct_st_eq, upd_ne _ _ (by decide)]; exact t1
        · by_cases e : i = c
          · subst e; exact r6
          · subst e6
            rw [show 1023 + 14 = 1037 from rfl, ct_st_eq, upd_ne _ _ e, ct_st_ne (by decide)]
            exact v1 i (by omega)
      · simp (disch := omega) only [vp_nI, cl, l37]
        refine ⟨by omega, ?_⟩
        intro m6 e6
        have r6 : m6.1 (1023 + 14) c = -9 := by subst e6; rw [show 1023 + 14 = 1037 from rfl, ct_st_eq, upd_same]
        rw [r6]
        refine ⟨by omega, fun z => absurd rfl z, fun _ => ?_⟩
        have p6 : m6.1 1023 3 = nI (1 + c) := by subst e6; rw [ct_st_ne (by decide)]; exact p1
        have eA : nI (1 + c) = A := by
          rw [← ea]
          by_cases z : 1 + c < L
          · exact (aErr_n z (by rw [aStep_1, if_neg (by omega)])).symm
          · have : 1 + c = L := by omega
            rw [this]; exact (aErr_0 (by show (1 : Nat) ≠ 2; decide)).symm
        rw [p6, eA]
        refine h m6 (f1.tr (by subst e6; exact FrE.v)) fun T P S hS => ?_
        exfalso
        have := hS.2.2.1 c (by omega)
        have := hS.1
        exact a ⟨by omega, by omega, by omega⟩
  unfold wp_X12_errorPosition
  intro m1 e1 m2 e2 m3 e3
  have f3 : FrE m m3 := by subst e3 e2 e1; exact ((FrE.o (Or.inl rfl)).tr (FrE.o (Or.inr (Or.inl rfl)))).tr (FrE.o (Or.inr (Or.inr rfl)))
  have x3 := hx.keepE f3
  have t3 : m3.1 1023 19 = 0 := by subst e3; rw [ct_st_eq, upd_same]
  rw [x3.1]
  refine ⟨fun z => ?_, fun z => ?_⟩
  · have : L = 0 := (cmp_eq (b := 0) (by omega) (by decide)).mp z
    subst this
    have eA : (0 : Int32) = A := by rw [← hA]; rfl
    rw [eA]
    exact h m3 f3 fun T P S hS => absurd hS.1 (by omega)
  · have hL0 : 0 < L := by
      refine Nat.pos_of_ne_zero fun y => z ?_
      rw [y]; rfl
    have e0 : m3.1 (1023 + 1) (0 : Int32).toNatClampNeg = nI (x 0) := (x3.2 0 hL0).2
    rw [e0]
    refine ⟨(vp_nI (n := 0) (by decide)).mpr (by decide), fun y => ?_, fun y => ?_⟩
    · have c0 : x 0 = 77 := (eqI (hx1 0 hL0) 77 (by omega)).mp y
      intro m7 e7
      refine ⟨7, dig 6 0 (fun _ => 0) m7 (by omega) (by omega) (by subst e7; rw [ct_st_eq, upd_same]; rfl) (by subst e7; rw [ct_st_eq, upd_ne _ _ (by decide)]; exact t3) (f3.tr (by subst e7; exact FrE.o (Or.inr (Or.inl rfl)))) c0 ?_ (fun i hi => absurd hi (Nat.not_lt_zero i))⟩
      rw [← hA]
      have : aErr x L 0 (0, 0, 0, 0, fun _ => 0) = aErr x (L - 0) 0 (0, 0, 0, 0, fun _ => 0) := rfl
      rw [this]
      exact (aErr_s hL0 (by rw [aStep_0, if_pos c0]; rfl)).symm
    · have c0 : ¬ x 0 = 77 := fun w => y (by rw [w]; rfl)
      have eA : (0 : Int32) = A := by
        rw [← hA]
        have : aErr x L 0 (0, 0, 0, 0, fun _ => 0) = aErr x (L - 0) 0 (0, 0, 0, 0, fun _ => 0) := rfl
        rw [this]
        exact (aErr_n hL0 (by rw [aStep_0, if_neg c0])).symm
      rw [eA]
      exact h m3 f3 fun T P S hS => absurd hS.2.1 c0
/-- where the automaton takes all, the text is a setup -/
theorem is_setup {L : Nat} {x : Nat → Nat} (hL : L ≤ 60) (hx : ∀ k, k < L → x k < 256) (h : aErr x L 0 (0, 0, 0, 0, fun _ => 0) = -9) : ∃ T P S, IsSetup L x T P S := by
  have thr : ∀ (f p t : Nat) (aw : Nat → Nat), L ≤ p + f → p ≤ L → t ≤ 3 → aErr x (L - p) p (2, 6, t, 0, aw) = -9 → ∃ (T : Nat) (P : Nat → Nat) (S : Nat → PQ), 0 < T ∧ t ≤ T ∧ T ≤ 3 ∧ P t = p ∧ P T = L ∧ ∀ s, t ≤ s → s < T → GoodT L x s (P s) ∧ pThr L x (P s) = some (S s) ∧ P (s + 1) = (S s).1 + 1 := by
    intro f
    have fin : ∀ (t : Nat) (aw : Nat → Nat), t ≤ 3 → aErr x (L - L) L (2, 6, t, 0, aw) = -9 → ∃ (T : Nat) (P : Nat → Nat) (S : Nat → PQ), 0 < T ∧ t ≤ T ∧ T ≤ 3 ∧ P t = L ∧ P T = L ∧ ∀ s, t ≤ s → s < T → GoodT L x s (P s) ∧ pThr L x (P s) = some (S s) ∧ P (s + 1) = (S s).1 + 1 := by
      intro t aw ht ea
      rw [Nat.sub_self] at ea
      have ea : (if 2 = 2 ∧ 0 < t then (-9 : Int32) else nI L) = -9 := ea
      by_cases z : 0 < t
      · exact ⟨t, fun _ => L, fun _ => pStart 0, z, Nat.le_refl _, ht, rfl, rfl, fun s a b => by omega⟩
      · rw [if_neg (by omega)] at ea
        exact absurd ea (nI_n9 (by omega))
    induction f with
    | zero =>
      intro p t aw hf hpL ht ea
      have : p = L := by omega
      subst this
      exact fin t aw ht ea
    | succ f ih =>
      intro p t aw hf hpL ht ea
      by_cases hp : p < L
      · by_cases c1 : x p = 116 ∧ t < 3
        · have e1 := (aErr_s hp (s := (2, 6, t, 0, aw)) (s' := (3, 6, t, 0, aw)) (by rw [aStep_2, if_pos c1])).symm.trans ea
          by_cases c2 : p + 1 < L ∧ (x (p + 1) = 49 ∨ x (p + 1) = 50)
          · have e2 := ((aErr_three (vr := 6) (tr := t) (d := 0) (aw := aw) (by omega)).1 c2).symm.trans e1
            obtain ⟨S', aw', g1, g2⟩ := pThread_ok (vr := 6) (tr := t) hL hx (f := 60) (S := pStart (p + 2)) (aw := aw) (by omega) (pStart_PI0 (by omega)) pStart_AWR e2
            obtain ⟨b1, b2, b3, b4, b5, b6⟩ := pThr_some hL hx (p := p) (by omega) g1
            obtain ⟨T, P, S, h1, h2, h3, h4, h5, h6⟩ := ih (S'.1 + 1) (t + 1) aw' (by omega) (by omega) (by omega) g2
            refine ⟨T, fun s => if s = t then p else P s, fun s => if s = t then S' else S s, h1, by omega, h3, if_pos rfl, ?_, fun s s1 s2 => ?_⟩
            · show (if T = t then p else P T) = L
              rw [if_neg (by omega)]; exact h5
            · by_cases e : s = t
              · subst e
                show GoodT L x s (if s = s then p else P s) ∧ pThr L x (if s = s then p else P s) = some (if s = s then S' else S s) ∧ (if s + 1 = s then p else P (s + 1)) = (if s = s then S' else S s).1 + 1
                rw [if_pos rfl, if_pos rfl, if_neg (by omega)]
                exact ⟨⟨c1.2, c1.1, c2⟩, g1, h4⟩
              · show GoodT L x s (if s = t then p else P s) ∧ pThr L x (if s = t then p else P s) = some (if s = t then S' else S s) ∧ (if s + 1 = t then p else P (s + 1)) = (if s = t then S' else S s).1 + 1
                rw [if_neg e, if_neg e, if_neg (by omega)]
                exact h6 s (by omega) s2
          · exact absurd (((aErr_three (by omega)).2 c2).symm.trans e1) (nI_n9 (by omega))
        · exact absurd ((aErr_n hp (s := (2, 6, t, 0, aw)) (by rw [aStep_2, if_neg c1])).symm.trans ea) (nI_n9 (by omega))
      · have : p = L := by omega
        subst this
        exact fin t aw ht ea
  have dig : ∀ (n c : Nat) (aw : Nat → Nat), c + n = 6 → 1 + c ≤ L → aErr x (L - (1 + c)) (1 + c) (if c < 6 then 1 else 2, c, 0, 0, aw) = -9 → ∃ aw', 7 ≤ L ∧ aErr x (L - 7) 7 (2, 6, 0, 0, aw') = -9 ∧ ∀ i, c ≤ i → i < 6 → 48 ≤ x (1 + i) ∧ x (1 + i) ≤ 57 := by
    intro n
    induction n with
    | zero =>
      intro c aw hc hcL ea
      have : c = 6 := by omega
      subst this
      exact ⟨aw, by omega, ea, fun i a b => by omega⟩
    | succ n ih =>
      intro c aw hc hcL ea
      rw [if_pos (by omega)] at ea
      by_cases z : 1 + c < L
      · by_cases z2 : 48 ≤ x (1 + c) ∧ x (1 + c) ≤ 57
        · have hstep : aStep (1, c, 0, 0, aw) (x (1 + c)) = some (if c + 1 < 6 then 1 else 2, c + 1, 0, 0, aw) := by rw [aStep_1, if_pos z2]
          obtain ⟨aw', a, b, d⟩ := ih (c + 1) aw (by omega) (by omega) ((aErr_s z hstep).symm.trans ea)
          refine ⟨aw', a, b, fun i i1 i2 => ?_⟩
          by_cases e : i = c
          · subst e; exact z2
          · exact d i (by omega) i2
        · exact absurd ((aErr_n z (s := (1, c, 0, 0, aw)) (by rw [aStep_1, if_neg z2])).symm.trans ea) (nI_n9 (by omega))
      · have : 1 + c = L := by omega
        rw [this] at ea
        exact absurd ((aErr_0 (s := (1, c, 0, 0, aw)) (by show (1 : Nat) ≠ 2; decide)).symm.trans ea) (nI_n9 (by omega))
  by_cases hL0 : 0 < L
  · by_cases c0 : x 0 = 77
    · have e1 := (aErr_s hL0 (s := (0, 0, 0, 0, fun _ => 0)) (s' := (1, 0, 0, 0, fun _ => 0)) (by rw [aStep_0, if_pos c0])).symm.trans h
      obtain ⟨aw, h7, h8, h9⟩ := dig 6 0 (fun _ => 0) (by omega) (by omega) e1
      obtain ⟨T, P, S, g1, g2, g3, g4, g5, g6⟩ := thr L 7 0 aw (by omega) h7 (by omega) h8
      exact ⟨T, P, S, h7, c0, fun c hc => h9 c (by omega) hc, g1, g3, g4, g5, fun s hs => g6 s (by omega) hs⟩
    · exact absurd ((aErr_n hL0 (s := (0, 0, 0, 0, fun _ => 0)) (by rw [aStep_0, if_neg c0])).symm.trans h) (nI_n9 (by omega))
  · have : L = 0 := by omega
    subst this
    have h : (if (0 : Nat) = 2 ∧ 0 < 0 then (-9 : Int32) else nI 0) = -9 := h
    rw [if_neg (by omega)] at h
    exact absurd h (nI_n9 (by omega))
