/-! the class: copying a world -/
def LogEq (m : ct_M) (a : Nat) (m' : ct_M) (a' : Nat) : Prop := m'.1 a' 0 = m.1 a 0 ∧ ∀ c, c < 6 → m'.1 (a' + 1) c = m.1 (a + 1) c
def WkEq (m : ct_M) (w : Nat) (m' : ct_M) (w' : Nat) : Prop := (m'.1 w' 1 = m.1 w 1 ∧ m'.1 w' 2 = m.1 w 2 ∧ m'.1 w' 3 = m.1 w 3 ∧ m'.1 w' 4 = m.1 w 4 ∧ m'.1 w' 5 = m.1 w 5 ∧ m'.1 w' 9 = m.1 w 9) ∧ LogEq m (w + 1) m' (w' + 1) ∧ LogEq m (w + 3) m' (w' + 3)
def BkEq (m : ct_M) (w : Nat) (m' : ct_M) (w' k : Nat) : Prop := (∀ j, j < 4 → m'.1 (w' + 6 + 3 * k) j = m.1 (w + 6 + 3 * k) j) ∧ LogEq m (w + 6 + 3 * k + 1) m' (w' + 6 + 3 * k + 1)
theorem cCopy_eq {m : ct_M} {a b : Nat} (h : a ≠ b) (h2 : a + 1 ≠ b) (h3 : a ≠ b + 1) : LogEq m b (cCopy m a b) a := by
  unfold cCopy
  refine ⟨by rw [pr_ne _ _ (by omega), pr_at, upd_same], fun c hc => ?_⟩
  rw [pr_at]
  exact if_pos hc
theorem cCopy_ne {m : ct_M} {a b q : Nat} (h : q ≠ a) (h2 : q ≠ a + 1) : (cCopy m a b).1 q = m.1 q := by
  unfold cCopy
  rw [pr_ne _ _ h2, pr_ne _ _ h]
theorem LogEq.tr {m m1 m2 : ct_M} {a b c : Nat} (h : LogEq m a m1 b) (h2 : LogEq m1 b m2 c) : LogEq m a m2 c :=
  ⟨h2.1.trans h.1, fun d hd => (h2.2 d hd).trans (h.2 d hd)⟩
theorem LogEq.same {m m' : ct_M} {a : Nat} (h : m'.1 a = m.1 a) (h2 : m'.1 (a + 1) = m.1 (a + 1)) : LogEq m a m' a :=
  ⟨by rw [h], fun c _ => by rw [h2]⟩
theorem c_bcopy {q s lo hi : Nat} {Q : ct_M → Prop} {m : ct_M} (hq : ct_ln (q + 2) = 6) (hs : ct_ln (s + 2) = 6) (ho : OkB (m.1 s)) (hd : q + 3 ≤ s ∨ s + 3 ≤ q) (h1 : lo ≤ q) (h2 : q + 2 < hi) (n1 : ¬ Bk lo hi (q + 1)) (n2 : ¬ Bk lo hi (q + 2))
    (h : ∀ m', Fr m m' lo hi → (∀ p, p < q ∨ q + 3 ≤ p → m'.1 p = m.1 p) → (∀ j, j < 4 → m'.1 q j = m.1 s j) → LogEq m (s + 1) m' (q + 1) → Q m') : wp_X4_copyFrom q s Q m := by
  unfold wp_X4_copyFrom
  refine ⟨ho.1, ?_⟩
  intro m1 e1
  have f1 : Fr m m1 lo hi := by subst e1; exact Fr.stB (by omega) (by omega) ⟨fun _ => ho.1, fun e => absurd e (by decide)⟩
  have o1 : ∀ p, p ≠ q → m1.1 p = m.1 p := fun p hp => by subst e1; exact ct_st_ne hp
  have q1 : m1.1 q = upd (m.1 q) 0 (m.1 s 0) := by subst e1; exact ct_st_eq
  rw [o1 s (by omega)]
  refine ⟨ho.2, ?_⟩
  intro m2 e2
  have f2 : Fr m1 m2 lo hi := by subst e2; exact Fr.stB (by omega) (by omega) ⟨fun e => absurd e (by decide), fun _ => ho.2⟩
  have o2 : ∀ p, p ≠ q → m2.1 p = m1.1 p := fun p hp => by subst e2; exact ct_st_ne hp
  have q2 : m2.1 q = upd (m1.1 q) 1 (m.1 s 1) := by subst e2; exact ct_st_eq
  intro m3 e3
  have f3 : Fr m2 m3 lo hi := by subst e3; exact Fr.stB (by omega) (by omega) ⟨fun e => absurd e (by decide), fun e => absurd e (by decide)⟩
  have o3 : ∀ p, p ≠ q → m3.1 p = m2.1 p := fun p hp => by subst e3; exact ct_st_ne hp
  have q3 : m3.1 q = upd (m2.1 q) 2 (m2.1 s 2) := by subst e3; exact ct_st_eq
  intro m4 e4
  have f4 : Fr m3 m4 lo hi := by subst e4; exact Fr.stB (by omega) (by omega) ⟨fun e => absurd e (by decide), fun e => absurd e (by decide)⟩
  have o4 : ∀ p, p ≠ q → m4.1 p = m3.1 p := fun p hp => by subst e4; exact ct_st_ne hp
  have q4 : m4.1 q = upd (m3.1 q) 3 (m3.1 s 3) := by subst e4; exact ct_st_eq
  refine c_copy (a := q + 1) (b := s + 1) hq hs (by omega) (by omega) (by omega) ?_
  have oa : ∀ p, p ≠ q → m4.1 p = m.1 p := fun p hp => by rw [o4 p hp, o3 p hp, o2 p hp, o1 p hp]
  refine h _ ((((f1.tr f2).tr f3).tr f4).tr (Fr.copy (by omega) (by omega) n1 n2)) (fun p hp => ?_) (fun j hj => ?_) ?_
  · rw [cCopy_ne (by omega) (by omega)]; exact oa p (by omega)
  · rw [cCopy_ne (by omega) (by omega), q4, q3, q2, q1, o3 s (by omega), o2 s (by omega), o1 s (by omega)]
    simp only [upd]
    have : j = 0 ∨ j = 1 ∨ j = 2 ∨ j = 3 := by omega
    rcases this with e | e | e | e <;> subst e <;> rfl
  · refine LogEq.tr ?_ (cCopy_eq (by omega) (by omega) (by omega))
    exact LogEq.same (oa _ (by omega)) (oa _ (by omega))
theorem c_wkcopy {w s : Nat} {Q : ct_M → Prop} {m : ct_M} (hw : WL w) (hs : WL s) (ho : ∀ k, k < 3 → OkB (m.1 (s + 6 + 3 * k))) (hd : w + 15 ≤ s ∨ s + 15 ≤ w)
    (h : ∀ m', Fr m m' w (w + 15) → WkEq m s m' w → (∀ k, k < 3 → BkEq m s m' w k) → Q m') : wp_X9_copyFrom w s Q m := by
  have loop : ∀ (n j : Nat) (m1 : ct_M), j + n = 3 → Fr m m1 w (w + 15) → WkEq m s m1 w → (∀ k, k < j → BkEq m s m1 w k) → wb_X9_copyFrom_72 Q (n + 1) w s (nI j) m1 := by
    intro n
    induction n with
    | zero =>
      intro j m1 hj f1 e1 b1
      have : j = 3 := by omega
      subst this
      unfold wb_X9_copyFrom_72
      exact ⟨fun _ => h m1 f1 e1 b1, fun e => absurd (by decide) e⟩
    | succ n ih =>
      intro j m1 hj f1 e1 b1
      unfold wb_X9_copyFrom_72
      simp (disch := omega) only [nI_ofNat, cmp_le, vp_nI, cl, hw.2.2.1, hs.2.2.1, show w + 5 + 1 + 3 * j = w + 6 + 3 * j from rfl, show s + 5 + 1 + 3 * j = s + 6 + 3 * j from rfl]
      refine ⟨fun e => absurd e (by omega), fun _ => ⟨by omega, by omega, ?_⟩⟩
      have src : ∀ p, p < w ∨ w + 15 ≤ p → m1.1 p = m.1 p := fun p hp => f1.2 p hp
      refine c_bcopy (lo := w) (hi := w + 15) (hw.2.2.2 j (by omega)) (hs.2.2.2 j (by omega)) (by rw [src _ (by omega)]; exact ho j (by omega)) (by omega) (by omega) (by omega) (by unfold Bk; omega) (by unfold Bk; omega) (fun m2 f2 o2 r2 g2 => ?_)
      intro x hx
      rw [hx, nI_add]
      refine ih (j + 1) m2 (by omega) (f1.tr f2) ?_ (fun k hk => ?_)
      · obtain ⟨⟨a1, a2, a3, a4, a5, a6⟩, g, g'⟩ := e1
        refine ⟨?_, g.tr (LogEq.same (o2 _ (by omega)) (o2 _ (by omega))), g'.tr (LogEq.same (o2 _ (by omega)) (o2 _ (by omega)))⟩
        rw [o2 w (by omega)]
        exact ⟨a1, a2, a3, a4, a5, a6⟩
      · by_cases ek : k = j
        · subst ek
          refine ⟨fun i hi => ?_, ?_⟩
          · rw [r2 i hi, src _ (by omega)]
          · refine LogEq.tr (LogEq.same (src _ (by omega)) (src _ (by omega))) g2
        · obtain ⟨c1, c2⟩ := b1 k (by omega)
          refine ⟨fun i hi => ?_, c2.tr (LogEq.same (o2 _ (by omega)) (o2 _ (by omega)))⟩
          rw [o2 _ (by omega)]; exact c1 i hi
  unfold wp_X9_copyFrom
  intro m1 e1 m2 e2 m3 e3 m4 e4 m5 e5
  have st : ∀ (x y : ct_M) (j : Nat) (z : Int32), y = ct_st x w j z → Fr x y w (w + 15) ∧ (∀ p, p ≠ w → y.1 p = x.1 p) ∧ y.1 w = upd (x.1 w) j z := by
    intro x y j z e
    subst e
    exact ⟨Fr.st (by omega) (by omega), fun p hp => ct_st_ne hp, ct_st_eq⟩
  obtain ⟨f1, o1, q1⟩ := st _ _ _ _ e1
  obtain ⟨f2, o2, q2⟩ := st _ _ _ _ e2
  obtain ⟨f3, o3, q3⟩ := st _ _ _ _ e3
  obtain ⟨f4, o4, q4⟩ := st _ _ _ _ e4
  obtain ⟨f5, o5, q5⟩ := st _ _ _ _ e5
  have oa : ∀ p, p ≠ w → m5.1 p = m.1 p := fun p hp => by rw [o5 p hp, o4 p hp, o3 p hp, o2 p hp, o1 p hp]
  refine c_copy (a := w + 1) (b := s + 1) hw.1 hs.1 (by omega) (by omega) (by omega) ?_
  refine c_copy (a := w + 3) (b := s + 3) hw.2.1 hs.2.1 (by omega) (by omega) (by omega) ?_
  intro m12 e12
  obtain ⟨f6, o6, q6⟩ := st _ _ _ _ e12
  refine ⟨4, loop 3 0 m12 rfl ?_ ?_ (fun k hk => absurd hk (by omega))⟩
  · exact ((((((f1.tr f2).tr f3).tr f4).tr f5).tr (Fr.copy (by omega) (by omega))).tr (Fr.copy (by omega) (by omega))).tr f6
  · refine ⟨?_, ?_, ?_⟩
    · rw [q6, cCopy_ne (by omega) (by omega), cCopy_ne (by omega) (by omega), q5, q4, q3, q2, q1, cCopy_ne (by omega) (by omega), cCopy_ne (by omega) (by omega), oa s (by omega), o4 s (by omega), o3 s (by omega), o2 s (by omega), o1 s (by omega)]
      simp [upd]
    · refine LogEq.tr ?_ (LogEq.same (o6 _ (by omega)) (o6 _ (by omega)))
      refine LogEq.tr ?_ (LogEq.same (cCopy_ne (by omega) (by omega)) (cCopy_ne (by omega) (by omega)))
      exact LogEq.tr (LogEq.same (oa _ (by omega)) (oa _ (by omega))) (cCopy_eq (by omega) (by omega) (by omega))
    · refine LogEq.tr ?_ (LogEq.same (o6 _ (by omega)) (o6 _ (by omega)))
      refine LogEq.tr ?_ (cCopy_eq (by omega) (by omega) (by omega))
      refine LogEq.tr (LogEq.same (oa _ (by omega)) (oa _ (by omega))) (LogEq.same (cCopy_ne (by omega) (by omega)) (cCopy_ne (by omega) (by omega)))
