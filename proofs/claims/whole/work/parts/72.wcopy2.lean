/-- all blocks of a world fit -/
def WOk (m : ct_M) (b : Nat) : Prop := ∀ t, t < 3 → ∀ k, k < 3 → OkB (m.1 (b + 7 + 15 * t + 6 + 3 * k))
theorem WOk.keep {m m' : ct_M} {b : Nat} (h : WOk m b) (hf : Fr m m' b (b + 52)) : WOk m' b := fun t ht k hk => hf.1.2 _ (by unfold Bk; omega) (h t ht k hk)
theorem Rk_copied {G : Prg} {m m' : ct_M} {w w' t : Nat} {v : Row} (h : Rk G m w v t) (hk : (v (rAt t + 16)).toNatClampNeg ≤ 3) (e : WkEq m w m' w') (eb : ∀ k, k < 3 → BkEq m w m' w' k) : Rk G m' w' v t := by
  obtain ⟨⟨a1, a2, a3, a4, a5, a6⟩, ⟨⟨n, n1, n2⟩, r2⟩, ⟨w1, w2⟩, b⟩ := h
  obtain ⟨⟨c1, c2, c3, c4, c5, c6⟩, ⟨g1, g2⟩, ⟨g3, g4⟩⟩ := e
  refine ⟨⟨c1.trans a1, c2.trans a2, c3.trans a3, c4.trans a4, c5.trans a5, c6.trans a6⟩, ⟨⟨n, n1, g1.trans n2⟩, fun c hc => ?_⟩, ⟨g3.trans w1, fun c hc hb => (g4 c hc).trans (w2 c hc hb)⟩, fun k hk' => ?_⟩
  · have e2 := g2 c hc
    rw [show w' + 1 + 1 = w' + 2 from rfl, show w + 1 + 1 = w + 2 from rfl] at e2
    rw [g1, e2]; exact r2 c hc
  · obtain ⟨b1, b2, b3, b4, b5, b6⟩ := b k hk'
    obtain ⟨f1, f2, f3⟩ := eb k (by omega)
    unfold RkB1
    rw [f1 0 (by omega), f1 1 (by omega), f1 2 (by omega), f1 3 (by omega)]
    exact ⟨b1, b2, b3, b4, f2.trans b5, fun c hc hb => (f3 c hc).trans (b6 c hc hb)⟩
/-- the parts of a world that are no workers -/
def WdEq (m : ct_M) (b : Nat) (m' : ct_M) (b' : Nat) : Prop := (∀ c, c < 6 → m'.1 (b' + 1) c = m.1 (b + 1) c) ∧ (∀ c, c < 6 → m'.1 (b' + 2) c = m.1 (b + 2) c) ∧ m'.1 b' 3 = m.1 b 3 ∧ m'.1 b' 7 = m.1 b 7 ∧ ∀ k, k < 4 → m'.1 (b' + 4) k = m.1 (b + 4) k ∧ m'.1 (b' + 5) k = m.1 (b + 5) k ∧ m'.1 (b' + 6) k = m.1 (b + 6) k
theorem RW_copied {G : Prg} {m m' : ct_M} {b b' T : Nat} {v : Row} (h : RW G m b v T) (hT : T ≤ 3) (hr : ∀ t, t < T → TR v t) (e : WdEq m b m' b') (ew : ∀ t, t < 3 → WkEq m (b + 7 + 15 * t) m' (b' + 7 + 15 * t) ∧ ∀ k, k < 3 → BkEq m (b + 7 + 15 * t) m' (b' + 7 + 15 * t) k) : RW G m' b' v T := by
  obtain ⟨⟨h1, h2⟩, h3, ⟨h4, n, h5, h6⟩, h7⟩ := h
  obtain ⟨e1, e2, e3, e4, e5⟩ := e
  refine ⟨⟨fun c hc => (e1 c hc).trans (h1 c hc), fun c hc => (e2 c hc).trans (h2 c hc)⟩, e3.trans h3, ⟨e4.trans h4, n, h5, fun k hk => ?_⟩, fun t ht => ?_⟩
  · obtain ⟨a1, a2, a3⟩ := e5 k (by have := h5.2.1; omega)
    obtain ⟨b1, b2, b3⟩ := h6 k hk
    exact ⟨a1.trans b1, a2.trans b2, a3.trans b3⟩
  · obtain ⟨q1, q2⟩ := ew t (by omega)
    exact Rk_copied (h7 t ht) (hr t ht).2 q1 q2
theorem va_cpy_lt {f g : Row} {n k : Nat} (h : k < n) : va_cpy f g 0 0 n k = f k := by
  unfold va_cpy
  rw [if_pos (by omega)]
  congr 1; omega
theorem c_wcopy {b s : Nat} {Q : ct_M → Prop} {m : ct_M} (hb : ct_K 10 b) (hs : ct_K 10 s) (ho : WOk m s) (hd : b + 52 ≤ s ∨ s + 52 ≤ b)
    (h : ∀ m', Fr m m' b (b + 52) → (∀ (G : Prg) (v : Row) (T : Nat), T ≤ 3 → (∀ t, t < T → TR v t) → RW G m s v T → RW G m' b v T) → WOk m' b → Q m') : wp_X10_copyFrom b s Q m := by
  obtain ⟨l1, l2, l3, l4, l5, l6⟩ := w_len hb
  obtain ⟨s1, s2, s3, s4, s5, s6⟩ := w_len hs
  have loop : ∀ (n j : Nat) (m1 : ct_M), j + n = 3 → Fr m m1 b (b + 52) → (∀ c, c < 6 → m1.1 (b + 1) c = m.1 (s + 1) c) → (∀ c, c < 6 → m1.1 (b + 2) c = m.1 (s + 2) c) → m1.1 b 3 = m.1 s 3 → (∀ t, t < j → WkEq m (s + 7 + 15 * t) m1 (b + 7 + 15 * t) ∧ (∀ k, k < 3 → BkEq m (s + 7 + 15 * t) m1 (b + 7 + 15 * t) k) ∧ ∀ k, k < 3 → OkB (m1.1 (b + 7 + 15 * t + 6 + 3 * k))) → wb_X10_copyFrom_40 Q (n + 1) b s (nI j) m1 := by
    intro n
    induction n with
    | zero =>
      intro j m1 hj f1 e1 e2 e3 ew
      have : j = 3 := by omega
      subst this
      unfold wb_X10_copyFrom_40
      refine ⟨fun _ => ?_, fun e => absurd (by decide) e⟩
      rw [s4, l4, s5, l5, s6, l6]
      refine ⟨by decide, by decide, by decide, by decide, by decide, ?_⟩
      intro m4 g4
      refine ⟨by decide, by decide, by decide, by decide, by decide, ?_⟩
      intro m7 g7
      refine ⟨by decide, by decide, by decide, by decide, by decide, ?_⟩
      intro m10 g10 m11 g11
      have cp : ∀ (x y : ct_M) (i j : Nat), b < j → j < b + 7 → y = ct_cp x i j (0 : Int32).toNatClampNeg (0 : Int32).toNatClampNeg (4 : Int32).toNatClampNeg → Fr x y b (b + 52) ∧ (∀ p, p ≠ j → y.1 p = x.1 p) ∧ ∀ k, k < 4 → y.1 j k = x.1 i k := by
        intro x y i j hj1 hj2 e
        subst e
        refine ⟨Fr.pr (a := j) (by omega) (by omega), fun p hp => ct_cp_ne hp, fun k hk => ?_⟩
        rw [ct_cp_eq]; exact va_cpy_lt hk
      obtain ⟨fa, oa, qa⟩ := cp _ _ _ _ (by omega) (by omega) g4
      obtain ⟨fb, ob, qb⟩ := cp _ _ _ _ (by omega) (by omega) g7
      obtain ⟨fc, oc, qc⟩ := cp _ _ _ _ (by omega) (by omega) g10
      have fd : Fr m10 m11 b (b + 52) := by subst g11; exact Fr.st (by omega) (by omega)
      have od : ∀ p, p ≠ b → m11.1 p = m10.1 p := fun p hp => by subst g11; exact ct_st_ne hp
      have qd : m11.1 b = upd (m10.1 b) 7 (m10.1 s 7) := by subst g11; exact ct_st_eq
      have fall := ((((f1.tr fa).tr fb).tr fc).tr fd)
      have far : ∀ p, p < b ∨ b + 7 ≤ p → m11.1 p = m1.1 p := fun p hp => by
        rw [od p (by omega), oc p (by omega), ob p (by omega), oa p (by omega)]
      have WD : WdEq m s m11 b := by
        refine ⟨fun c hc => ?_, fun c hc => ?_, ?_, ?_, fun k hk => ⟨?_, ?_, ?_⟩⟩
        · rw [od _ (by omega), oc _ (by omega), ob _ (by omega), oa _ (by omega)]; exact e1 c hc
        · rw [od _ (by omega), oc _ (by omega), ob _ (by omega), oa _ (by omega)]; exact e2 c hc
        · rw [qd, upd_ne _ _ (by decide), oc _ (by omega), ob _ (by omega), oa _ (by omega)]; exact e3
        · rw [qd, upd_same, oc _ (by omega), ob _ (by omega), oa _ (by omega), f1.2 _ (by omega)]
        · rw [od _ (by omega), oc _ (by omega), ob _ (by omega), qa k hk, f1.2 _ (by omega)]
        · rw [od _ (by omega), oc _ (by omega), qb k hk, oa _ (by omega), f1.2 _ (by omega)]
        · rw [od _ (by omega), qc k hk, ob _ (by omega), oa _ (by omega), f1.2 _ (by omega)]
      have WK : ∀ t, t < 3 → WkEq m (s + 7 + 15 * t) m11 (b + 7 + 15 * t) ∧ ∀ k, k < 3 → BkEq m (s + 7 + 15 * t) m11 (b + 7 + 15 * t) k := by
        intro t ht
        obtain ⟨⟨x1, x2, x3⟩, y, -⟩ := ew t ht
        refine ⟨⟨?_, x2.tr (LogEq.same (far _ (by omega)) (far _ (by omega))), x3.tr (LogEq.same (far _ (by omega)) (far _ (by omega)))⟩, fun k hk => ⟨fun j hj => ?_, (y k hk).2.tr (LogEq.same (far _ (by omega)) (far _ (by omega)))⟩⟩
        · rw [far _ (by omega)]; exact x1
        · rw [far _ (by omega)]; exact (y k hk).1 j hj
      refine h m11 fall (fun G v T hT hr hrw => RW_copied hrw hT hr WD WK) (fun t ht k hk => ?_)
      rw [far _ (by omega)]
      exact (ew t ht).2.2 k hk
    | succ n ih =>
      intro j m1 hj f1 e1 e2 e3 ew
      unfold wb_X10_copyFrom_40
      simp (disch := omega) only [nI_ofNat, cmp_le, vp_nI, cl, l3, s3, show b + 3 + 4 + 15 * j = b + 7 + 15 * j from rfl, show s + 3 + 4 + 15 * j = s + 7 + 15 * j from rfl]
      refine ⟨fun e => absurd e (by omega), fun _ => ⟨by omega, by omega, ?_⟩⟩
      refine c_wkcopy (w_WL hb (by omega)) (w_WL hs (by omega)) (fun k hk => by rw [f1.2 _ (by omega)]; exact ho j (by omega) k hk) (by omega) (fun m2 f2 x2 y2 => ?_)
      intro x hx
      rw [hx, nI_add]
      have src : ∀ p, s ≤ p → p < s + 52 → m1.1 p = m.1 p := fun p p1 p2 => f1.2 p (by omega)
      have WKj : WkEq m (s + 7 + 15 * j) m2 (b + 7 + 15 * j) := by
        obtain ⟨z1, z2, z3⟩ := x2
        rw [src _ (by omega) (by omega)] at z1
        exact ⟨z1, LogEq.tr (LogEq.same (src _ (by omega) (by omega)) (src _ (by omega) (by omega))) z2, LogEq.tr (LogEq.same (src _ (by omega) (by omega)) (src _ (by omega) (by omega))) z3⟩
      have BKj : ∀ k, k < 3 → BkEq m (s + 7 + 15 * j) m2 (b + 7 + 15 * j) k := by
        intro k hk
        obtain ⟨z1, z2⟩ := y2 k hk
        rw [src _ (by omega) (by omega)] at z1
        exact ⟨z1, LogEq.tr (LogEq.same (src _ (by omega) (by omega)) (src _ (by omega) (by omega))) z2⟩
      have OKj : ∀ k, k < 3 → OkB (m2.1 (b + 7 + 15 * j + 6 + 3 * k)) := by
        intro k hk
        have := (BKj k hk).1
        unfold OkB
        rw [this 0 (by omega), this 1 (by omega)]
        exact ho j (by omega) k hk
      refine ih (j + 1) m2 (by omega) (f1.tr (f2.mono (by omega) (by omega))) (fun c hc => ?_) (fun c hc => ?_) ?_ (fun t ht => ?_)
      · rw [f2.2 _ (by omega)]; exact e1 c hc
      · rw [f2.2 _ (by omega)]; exact e2 c hc
      · rw [f2.2 _ (by omega)]; exact e3
      · by_cases et : t = j
        · subst et; exact ⟨WKj, BKj, OKj⟩
        · obtain ⟨⟨x1, x2, x3⟩, y, z⟩ := ew t (by omega)
          have far : ∀ p, b + 7 + 15 * t ≤ p → p < b + 7 + 15 * t + 15 → m2.1 p = m1.1 p := fun p p1 p2 => f2.2 p (by omega)
          refine ⟨⟨?_, x2.tr (LogEq.same (far _ (by omega) (by omega)) (far _ (by omega) (by omega))), x3.tr (LogEq.same (far _ (by omega) (by omega)) (far _ (by omega) (by omega)))⟩, fun k hk => ⟨fun i hi => ?_, (y k hk).2.tr (LogEq.same (far _ (by omega) (by omega)) (far _ (by omega) (by omega)))⟩, fun k hk => ?_⟩
          · rw [far _ (by omega) (by omega)]; exact x1
          · rw [far _ (by omega) (by omega)]; exact (y k hk).1 i hi
          · rw [far _ (by omega) (by omega)]; exact z k hk
  unfold wp_X10_copyFrom
  rw [s1, l1, s2, l2]
  refine ⟨by decide, by decide, by decide, by decide, by decide, ?_⟩
  intro m3 g3
  refine ⟨by decide, by decide, by decide, by decide, by decide, ?_⟩
  intro m6 g6 m7 g7
  have cp : ∀ (x y : ct_M) (i j : Nat), b < j → j < b + 7 → y = ct_cp x i j (0 : Int32).toNatClampNeg (0 : Int32).toNatClampNeg (6 : Int32).toNatClampNeg → Fr x y b (b + 52) ∧ (∀ p, p ≠ j → y.1 p = x.1 p) ∧ ∀ k, k < 6 → y.1 j k = x.1 i k := by
    intro x y i j hj1 hj2 e
    subst e
    refine ⟨Fr.pr (a := j) (by omega) (by omega), fun p hp => ct_cp_ne hp, fun k hk => ?_⟩
    rw [ct_cp_eq]; exact va_cpy_lt hk
  obtain ⟨fa, oa, qa⟩ := cp _ _ _ _ (by omega) (by omega) g3
  obtain ⟨fb, ob, qb⟩ := cp _ _ _ _ (by omega) (by omega) g6
  have fd : Fr m6 m7 b (b + 52) := by subst g7; exact Fr.st (by omega) (by omega)
  have od : ∀ p, p ≠ b → m7.1 p = m6.1 p := fun p hp => by subst g7; exact ct_st_ne hp
  have qd : m7.1 b = upd (m6.1 b) 3 (m6.1 s 3) := by subst g7; exact ct_st_eq
  refine ⟨4, loop 3 0 m7 rfl ((fa.tr fb).tr fd) (fun c hc => ?_) (fun c hc => ?_) ?_ (fun t ht => absurd ht (by omega))⟩
  · rw [od _ (by omega), ob _ (by omega)]; exact qa c hc
  · rw [od _ (by omega), qb c hc, oa _ (by omega)]
  · rw [qd, upd_same, ob _ (by omega), oa _ (by omega)]
