/-! a thread, and a whole text -/
def pStart (p : Nat) : PQ := (p, 0, 0, fun _ => 0, fun _ => 0, fun _ _ => 0)
def pThr (L : Nat) (x : Nat → Nat) (p : Nat) : Option PQ := pThread L x 60 (pStart (p + 2))
theorem pStart_PI0 {L p : Nat} (h : p ≤ L) : PI0 L (pStart p) := ⟨h, Nat.zero_le _, Nat.zero_le _, fun i hi => absurd hi (Nat.not_lt_zero i), fun i j _ hj => absurd hj (Nat.not_lt_zero j)⟩
theorem pStart_PJ {p : Nat} : PJ (pStart p) := ⟨rfl, rfl, fun _ _ => Nat.zero_le 3, fun i hi => absurd hi (Nat.not_lt_zero i), fun j hj => absurd hj (Nat.not_lt_zero j)⟩
theorem pStart_AWR {p : Nat} {aw : Nat → Nat} : AWR (pStart p) aw := fun i hi => absurd hi (Nat.not_lt_zero i)
def FrT (t : Nat) (m m' : ct_M) : Prop := m'.2 = m.2 ∧ (∀ c, (c < 1023 ∨ (1023 < c ∧ c < 1038) ∨ 1045 ≤ c) → m'.1 c = m.1 c) ∧ (∀ j, j ≠ 3 → j ≠ 19 → j ≠ 28 → m'.1 1023 j = m.1 1023 j) ∧ (∀ j, j ≠ t → m'.1 1038 j = m.1 1038 j ∧ m'.1 1039 j = m.1 1039 j) ∧ ∀ k, k < 4 → ∀ i, (i < 60 * t ∨ 60 * t + 60 ≤ i) → m'.1 (1040 + k) i = m.1 (1040 + k) i
theorem FrT.rf {t : Nat} {m : ct_M} : FrT t m m := ⟨rfl, fun _ _ => rfl, fun _ _ _ _ => rfl, fun _ _ => ⟨rfl, rfl⟩, fun _ _ _ _ => rfl⟩
theorem FrT.tr {t : Nat} {m m' m'' : ct_M} (h : FrT t m m') (g : FrT t m' m'') : FrT t m m'' :=
  ⟨g.1.trans h.1, fun c hc => (g.2.1 c hc).trans (h.2.1 c hc), fun j a b c => (g.2.2.1 j a b c).trans (h.2.2.1 j a b c), fun j a => ⟨(g.2.2.2.1 j a).1.trans (h.2.2.2.1 j a).1, (g.2.2.2.1 j a).2.trans (h.2.2.2.1 j a).2⟩, fun k hk i hi => (g.2.2.2.2 k hk i hi).trans (h.2.2.2.2 k hk i hi)⟩
theorem FrP.T {t : Nat} {m m' : ct_M} (h : FrP t m m') : FrT t m m' :=
  ⟨h.1, fun c hc => h.2.1 c (by omega), fun j a b c => h.2.2.1 j a c, fun j a => ⟨by rw [h.2.1 1038 (by omega)], h.2.2.2.1 j a⟩, h.2.2.2.2⟩
theorem FrT.o {t j : Nat} {m : ct_M} {x : Int32} (hj : j = 3 ∨ j = 19 ∨ j = 28) : FrT t m (ct_st m 1023 j x) :=
  ⟨rfl, fun c hc => ct_st_ne (by omega), fun i a b c => by rw [ct_st_eq, upd_ne _ _ (by omega)], fun i _ => ⟨by rw [ct_st_ne (by decide)], by rw [ct_st_ne (by decide)]⟩, fun k hk i _ => by rw [ct_st_ne (by omega)]⟩
theorem FrT.c38 {t : Nat} {m : ct_M} {x : Int32} : FrT t m (ct_st m 1038 t x) :=
  ⟨rfl, fun c hc => ct_st_ne (by omega), fun i a b c => by rw [ct_st_ne (by decide)], fun i a => ⟨by rw [ct_st_eq, upd_ne _ _ a], by rw [ct_st_ne (by decide)]⟩, fun k hk i _ => by rw [ct_st_ne (by omega)]⟩
theorem RTx.keepT {L t : Nat} {x : Nat → Nat} {m m' : ct_M} (h : RTx L x m) (f : FrT t m m') : RTx L x m' :=
  ⟨by rw [f.2.2.1 2 (by decide) (by decide) (by decide)]; exact h.1, fun k hk => by rw [f.2.1 1024 (by omega)]; exact h.2 k hk⟩
theorem aErr_three {x : Nat → Nat} {L p vr tr d : Nat} {aw : Nat → Nat} (hp : p ≤ L) : (p < L ∧ (x p = 49 ∨ x p = 50) → aErr x (L - p) p (3, vr, tr, d, aw) = aErr x (L - (p + 1)) (p + 1) (4, vr, tr, d, aw)) ∧ (¬ (p < L ∧ (x p = 49 ∨ x p = 50)) → aErr x (L - p) p (3, vr, tr, d, aw) = nI p) := by
  refine ⟨fun ⟨h1, h2⟩ => aErr_s h1 (by rw [aStep_3, if_pos h2]), fun h => ?_⟩
  by_cases c : p < L
  · exact aErr_n c (by rw [aStep_3, if_neg fun z => h ⟨c, z⟩])
  · have : p = L := by omega
    subst this
    exact aErr_0 (by show (3 : Nat) ≠ 2; decide)
def GoodT (L : Nat) (x : Nat → Nat) (t p : Nat) : Prop := t < 3 ∧ x p = 116 ∧ p + 1 < L ∧ (x (p + 1) = 49 ∨ x (p + 1) = 50)
theorem r_parseThread {L t p vr : Nat} {x : Nat → Nat} {aw : Nat → Nat} {Q : Int32 → ct_M → Prop} {m : ct_M} (hL : L ≤ 60) (ht : t ≤ 3) (hx : RTx L x m) (hp : p < L) (h3 : m.1 1023 3 = nI p) (h19 : m.1 1023 19 = nI t)
    (h1 : ∀ S' aw', GoodT L x t p → pThr L x p = some S' → aErr x (L - p) p (2, vr, t, 0, aw) = aErr x (L - (S'.1 + 1)) (S'.1 + 1) (2, vr, t + 1, 0, aw') → ∀ m', FrT t m m' → m'.1 1023 3 = nI (S'.1 + 1) → m'.1 1023 19 = nI (t + 1) → m'.1 1038 t = nI (x (p + 1) - 48) → m'.1 1039 t = nI S'.2.1 → (∀ k, k < 4 → ∀ j, j < S'.2.1 → m'.1 (1040 + k) (60 * t + j) = S'.2.2.2.2.2 k j) → Q 1 m')
    (h0 : ¬ (GoodT L x t p ∧ ∃ S', pThr L x p = some S') → ∀ pos, pos < 2 ^ 30 → aErr x (L - p) p (2, vr, t, 0, aw) = nI pos → ∀ m', FrT t m m' → m'.1 1023 3 = nI pos → Q 0 m') : wp_X12_parseThread 1023 Q m := by
  obtain ⟨hx1, hx2⟩ := hx.2 p hp
  have l24 : ct_ln (1023 + 1) = 60 := by decide
  have l38 : ct_ln (1023 + 15) = 3 := by decide
  have l39 : ct_ln (1023 + 16) = 3 := by decide
  unfold wp_X12_parseThread
  rw [h3, h19]
  refine ⟨fun z => ?_, fun z => ?_⟩
  · have ht3 : t = 3 := (cmp_eq (b := 3) (by omega) (by decide)).mp z
    exact h0 (fun y => by have := y.1.1; omega) p (by omega) (aErr_n hp (by rw [aStep_2, if_neg (by omega)])) m FrT.rf h3
  · have ht3 : t < 3 := by
      refine Nat.lt_of_le_of_ne ht fun y => z ?_
      rw [y]; rfl
    simp (disch := omega) only [vp_nI, cl, l24, l38, l39]
    rw [show m.1 (1023 + 1) p = nI (x p) from hx2]
    refine ⟨by omega, fun z2 => ?_, fun z2 => ?_⟩
    · have c1 : x p = 116 := (eqI hx1 116 (by omega)).mp z2
      have e0 : aErr x (L - p) p (2, vr, t, 0, aw) = aErr x (L - (p + 1)) (p + 1) (3, vr, t, 0, aw) := aErr_s hp (by rw [aStep_2, if_pos ⟨c1, ht3⟩])
      intro m4 e4
      rw [nI_ofNat 1, nI_add] at e4
      have t4 : m4.1 1023 19 = nI t := by subst e4; rw [ct_st_eq, upd_ne _ _ (by decide)]; exact h19
      have f4 : FrT t m m4 := by subst e4; exact FrT.o (Or.inl rfl)
      have p4 : m4.1 1023 3 = nI (p + 1) := by subst e4; rw [ct_st_eq, upd_same]
      rw [t4]
      simp (disch := omega) only [vp_nI, cl]
      refine ⟨ht3, ?_⟩
      intro m6 e6
      have t6 : m6.1 1023 19 = nI t := by subst e6; rw [ct_st_ne (by decide)]; exact t4
      have f6 : FrT t m m6 := f4.tr (by subst e6; exact FrP.cnt.T)
      have p6 : m6.1 1023 3 = nI (p + 1) := by subst e6; rw [ct_st_ne (by decide)]; exact p4
      have c6 : m6.1 1039 t = 0 := by subst e6; rw [show 1023 + 16 = 1039 from rfl, ct_st_eq, upd_same]
      have x6 := hx.keepT f6
      rw [t6]
      simp (disch := omega) only [vp_nI, cl]
      refine r_number (lo := 1) (hi := 2) hL (by omega) (by omega) (by omega) x6.1 p6 x6.2 (fun a b c => ⟨ht3, ?_⟩) (fun a => ⟨ht3, ?_⟩)
      · intro m10 e10
        have t10 : m10.1 1023 19 = nI t := by subst e10; rw [ct_st_ne (by decide), ct_st_eq, upd_ne _ _ (by decide)]; exact t6
        have f10 : FrT t m m10 := (f6.tr (FrT.o (Or.inl rfl))).tr (by subst e10; exact FrT.c38)
        have p10 : m10.1 1023 3 = nI (p + 2) := by subst e10; rw [ct_st_ne (by decide), ct_st_eq, upd_same]
        have r10 : m10.1 (1023 + 15) t = nI (x (p + 1) - 48) := by subst e10; rw [show 1023 + 15 = 1038 from rfl, ct_st_eq, upd_same]
        have c10 : m10.1 1039 t = 0 := by subst e10; rw [ct_st_ne (by decide), ct_st_ne (by decide)]; exact c6
        rw [t10]
        simp (disch := omega) only [vp_nI, cl]
        rw [r10]
        refine ⟨ht3, fun _ => ?_, fun e => absurd e (nI_n9 (by omega))⟩
        intro m12 e12
        have f12 : FrT t m m12 := f10.tr (by subst e12; exact FrT.o (Or.inr (Or.inr rfl)))
        have r12 : m12.1 1038 t = nI (x (p + 1) - 48) := by subst e12; rw [ct_st_ne (by decide)]; exact r10
        have M12 : MR m12 t (pStart (p + 2)) := by
          subst e12
          exact ⟨by rw [ct_st_eq, upd_ne _ _ (by decide)]; exact p10, by rw [ct_st_eq, upd_ne _ _ (by decide)]; exact t10, by rw [ct_st_eq, upd_same]; rfl, by rw [ct_st_ne (by decide)]; exact c10, fun i hi => absurd hi (Nat.not_lt_zero i), fun k hk j hj => absurd hj (Nat.not_lt_zero j)⟩
        have e1 : aErr x (L - p) p (2, vr, t, 0, aw) = aErr x (L - (p + 2)) (p + 2) (4, vr, t, 0, aw) := e0.trans ((aErr_three (by omega)).1 ⟨a, by omega⟩)
        refine ⟨61, r_tokens (vr := vr) (tr := t) (aw := aw) hL ht3 (f := 60) (S := pStart (p + 2)) (by omega) (pStart_PI0 (by omega)) pStart_PJ pStart_AWR (hx.keepT f12) M12 (fun S' aw' e2 e3 m' M' f' => ?_) (fun e2 pos ps e3 m' p' f' => ?_)⟩
        · refine h1 S' aw' ⟨ht3, c1, a, by omega⟩ e2 (e1.trans e3) _ ((f12.tr f'.T).tr ((FrT.o (Or.inl rfl)).tr (FrT.o (Or.inr (Or.inl rfl))))) ?_ ?_ ?_ ?_ (fun k hk j hj => ?_)
          · rw [ct_st_eq, upd_ne _ _ (by decide), ct_st_eq, upd_same]
          · rw [ct_st_eq, upd_same]
          · rw [ct_st_ne (by decide), ct_st_ne (by decide), f'.2.1 1038 (by omega)]; exact r12
          · rw [ct_st_ne (by decide), ct_st_ne (by decide)]; exact M'.2.2.2.1
          · rw [ct_st_ne (by omega), ct_st_ne (by omega)]; exact M'.2.2.2.2.2 k hk j hj
        · refine h0 (fun z => ?_) pos ps (e1.trans e3) m' (f12.tr f'.T) p'
          obtain ⟨-, S', hS⟩ := z
          unfold pThr at hS
          rw [e2] at hS; cases hS
      · intro m10 e10
        have t10 : m10.1 1023 19 = nI t := by subst e10; rw [ct_st_ne (by decide)]; exact t6
        have f10 : FrT t m m10 := f6.tr (by subst e10; exact FrT.c38)
        have p10 : m10.1 1023 3 = nI (p + 1) := by subst e10; rw [ct_st_ne (by decide)]; exact p6
        have r10 : m10.1 (1023 + 15) t = -9 := by subst e10; rw [show 1023 + 15 = 1038 from rfl, ct_st_eq, upd_same]
        rw [t10]
        simp (disch := omega) only [vp_nI, cl]
        rw [r10]
        refine ⟨ht3, fun e => absurd rfl e, fun _ => ?_⟩
        have na : ¬ (p + 1 < L ∧ (x (p + 1) = 49 ∨ x (p + 1) = 50)) := fun z => a ⟨z.1, by omega, by omega⟩
        exact h0 (fun z => na z.1.2.2) (p + 1) (by omega) (e0.trans ((aErr_three (by omega)).2 na)) m10 f10 p10
    · have c1 : ¬ x p = 116 := fun y => z2 (by rw [y]; rfl)
      exact h0 (fun y => c1 y.1.2.1) p (by omega) (aErr_n hp (by rw [aStep_2, if_neg fun y => c1 y.1])) m FrT.rf h3
