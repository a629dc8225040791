/-! load: the class fills -/
theorem CI.keep {m m' : ct_M} {P : Nat} {S : PQ} (h : CI m P S) (hm : ∀ q, P ≤ q → q < P + 5 → m'.1 q = m.1 q) : CI m' P S := by
  obtain ⟨p, n, d, q, dp, W⟩ := S
  obtain ⟨a, b, c, e⟩ := h
  refine ⟨by rw [hm P (by omega) (by omega)]; exact a, by rw [hm P (by omega) (by omega)]; exact b, fun j hj => ?_, fun i hi => ?_⟩
  · rw [hm (P + 1) (by omega) (by omega), hm (P + 2) (by omega) (by omega), hm (P + 3) (by omega) (by omega)]; exact c j hj
  · rw [hm (P + 4) (by omega) (by omega)]; exact e i hi
theorem FW.keep {m m' : ct_M} {w : Nat} {r : Int32} (h : FW m w r) (h0 : m'.1 w = m.1 w) (h1 : m'.1 (w + 1) = m.1 (w + 1)) (h3 : m'.1 (w + 3) = m.1 (w + 3)) : FW m' w r := by
  unfold FW at h ⊢
  rw [h0, h1, h3]; exact h
def FFr (m m' : ct_M) : Prop := m'.2 = m.2 ∧ ∀ q, (q < 11 ∨ 28 ≤ q) → (∀ t, t < 3 → q ≠ 33 + 15 * t ∧ q ≠ 34 + 15 * t ∧ q ≠ 36 + 15 * t) → m'.1 q = m.1 q
theorem FFr.rf {m : ct_M} : FFr m m := ⟨rfl, fun _ _ _ => rfl⟩
theorem FFr.tr {m m' m'' : ct_M} (h : FFr m m') (g : FFr m' m'') : FFr m m'' := ⟨g.1.trans h.1, fun q a b => (g.2 q a b).trans (h.2 q a b)⟩
theorem PFr.FF {t : Nat} {m m' : ct_M} (h : PFr (11 + 5 * t) m m') (ht : t < 3) : FFr m m' := ⟨h.1, fun q a _ => h.2 q (by omega)⟩
theorem WFr.FF {t : Nat} {m m' : ct_M} (h : WFr t m m') (ht : t < 3) : FFr m m' := ⟨h.1, fun q a b => h.2 q (by omega) (b t ht).1 (b t ht).2.1 (b t ht).2.2⟩
theorem c_fill {L T : Nat} {x P : Nat → Nat} {S : Nat → PQ} {Q : ct_M → Prop} {m : ct_M} (hL : L ≤ 60) (hx : CTx L x m) (hS : IsSetup L x T P S) (h26 : m.1 26 3 = 0)
    (h : ∀ m', FFr m m' → (∀ c, c < 6 → m'.1 27 c = nI (x (1 + c) - 48)) → m'.1 26 = upd (m.1 26) 3 (nI T) → (∀ s, s < T → CI m' (11 + 5 * s) (S s) ∧ FW m' (33 + 15 * s) (nI (x (P s + 1) - 48))) → Q m') : wp_X8_fill 1 26 5 Q m := by
  obtain ⟨s1, s2, s3, s4, s5, s6, s7, s8⟩ := hS
  have hx1 : ∀ k, k < L → x k < 256 := fun k hk => (hx.2 k hk).1
  have l5 : ct_ln 5 = 3 := by decide +kernel
  have l27 : ct_ln (26 + 1) = 6 := by decide +kernel
  have thr : ∀ (n t : Nat) (m1 : ct_M), t + n = T → FFr m m1 → (∀ c, c < 6 → m1.1 27 c = nI (x (1 + c) - 48)) → m1.1 26 = upd (m.1 26) 3 (nI t) → (∀ s, s < t → CI m1 (11 + 5 * s) (S s) ∧ FW m1 (33 + 15 * s) (nI (x (P s + 1) - 48))) → wb_X8_fill_33 Q (n + 1) 1 26 5 (nI (P t)) (nI t) m1 := by
    intro n
    induction n with
    | zero =>
      intro t m1 hn f1 v1 t1 c1
      have : t = T := by omega
      subst this
      have x1 := hx.keep (f1.2 1 (by omega) (by omega)) (f1.2 2 (by omega) (by omega))
      have hQ := h m1 f1 v1 t1 c1
      unfold wb_X8_fill_33
      rw [x1.1, s7]
      exact ⟨fun _ => hQ, fun _ => ⟨fun _ => hQ, fun _ => ⟨fun _ => hQ, fun z => absurd ((cmp_le (by omega) (by omega)).mpr (Nat.le_refl _)) z⟩⟩⟩
    | succ n ih =>
      intro t m1 hn f1 v1 t1 c1
      have htT : t < T := by omega
      have ht3 : t < 3 := by omega
      have x1 := hx.keep (f1.2 1 (by omega) (by omega)) (f1.2 2 (by omega) (by omega))
      obtain ⟨g, gp, gn⟩ := s8 t htT
      obtain ⟨g1, g2, g3, g4⟩ := g
      unfold wb_X8_fill_33
      rw [x1.1, l5]
      refine ⟨fun z => absurd ((cmp_le (a := 3) (by decide) (by omega)).mp z) (by omega), fun _ => ⟨fun z => absurd ((cmp_le (a := 3) (by decide) (by omega)).mp z) (by omega), fun _ => ⟨fun z => absurd ((cmp_le (by omega) (by omega)).mp z) (by omega), fun _ => ?_⟩⟩⟩
      rw [nI_ofNat 1, nI_add, nI_ofNat 2, nI_add, cl (n := t) (by omega)]
      refine c_digit hL x1 g3 (by omega) ⟨(vp_nI (by omega)).mpr ht3, ?_⟩
      rw [show 5 + 6 + 5 * t = 11 + 5 * t by omega]
      unfold wp_X8_fillProgram wp_X5_clear
      intro m2 e2 m3 e3
      have f3 : PFr (11 + 5 * t) m1 m3 := by subst e3 e2; exact (PFr.st (by omega) (by omega)).tr (PFr.st (by omega) (by omega))
      have C3 : CI m3 (11 + 5 * t) (pStart (P t + 2)) := by
        subst e3 e2
        exact ⟨by rw [ct_st_eq, upd_ne _ _ (by decide), ct_st_eq, upd_same]; rfl, by rw [ct_st_eq, upd_same]; rfl, fun j hj => absurd hj (Nat.not_lt_zero j), fun i hi => absurd hi (Nat.not_lt_zero i)⟩
      have x3 := x1.keep (f3.2 1 (by omega)) (f3.2 2 (by omega))
      refine ⟨61, c_program (S2 := S t) hL ht3 (f := 60) (S := pStart (P t + 2)) (by omega) (pStart_PI0 (by omega)) pStart_PJ x3 C3 gp (fun m4 f4 C4 => ?_)⟩
      have o4 : ∀ q, (q < 11 + 5 * t ∨ 11 + 5 * t + 5 ≤ q) → m4.1 q = m1.1 q := fun q hq => by rw [f4.2 q hq, f3.2 q hq]
      refine c_addThread ht3 (by rw [o4 26 (by omega), t1, upd_same]) (fun m5 f5 t5 w5 => ?_)
      intro x10 h10
      rw [h10, nI_add, ← gn]
      refine ih (t + 1) m5 (by omega) (((f1.tr (f3.FF ht3)).tr (f4.FF ht3)).tr (f5.FF ht3)) (fun c hc => ?_) ?_ (fun s hs => ?_)
      · rw [f5.2 27 (by omega) (by omega) (by omega) (by omega), o4 27 (by omega)]; exact v1 c hc
      · rw [t5, o4 26 (by omega), t1]
        funext i
        simp only [upd]
        split <;> rfl
      · by_cases e : s = t
        · subst e
          exact ⟨C4.keep fun q q1 q2 => f5.2 q (by omega) (by omega) (by omega) (by omega), w5⟩
        · obtain ⟨c2, w2⟩ := c1 s (by omega)
          refine ⟨c2.keep fun q q1 q2 => ?_, w2.keep ?_ ?_ ?_⟩
          · rw [f5.2 q (by omega) (by omega) (by omega) (by omega), o4 q (by omega)]
          · rw [f5.2 _ (by omega) (by omega) (by omega) (by omega), o4 _ (by omega)]
          · rw [f5.2 _ (by omega) (by omega) (by omega) (by omega), o4 _ (by omega)]
          · rw [f5.2 _ (by omega) (by omega) (by omega) (by omega), o4 _ (by omega)]
  have dig : ∀ (n c : Nat) (m1 : ct_M), c + n = 6 → FFr m m1 → m1.1 26 = m.1 26 → (∀ i, i < c → m1.1 27 i = nI (x (1 + i) - 48)) → wb_X8_fill_2 Q (n + 1) 1 26 5 (nI c) m1 := by
    intro n
    induction n with
    | zero =>
      intro c m1 hc f1 t1 v1
      have : c = 6 := by omega
      subst this
      unfold wb_X8_fill_2
      refine ⟨fun _ => ⟨T + 1, ?_⟩, fun z => absurd (by decide) z⟩
      have := thr T 0 m1 (by omega) f1 v1 (by
        rw [t1]
        funext i
        simp only [upd]
        split
        · rename_i e; rw [e, h26]; rfl
        · rfl) (fun s hs => absurd hs (Nat.not_lt_zero s))
      rw [s6] at this
      exact this
    | succ n ih =>
      intro c m1 hc f1 t1 v1
      have x1 := hx.keep (f1.2 1 (by omega) (by omega)) (f1.2 2 (by omega) (by omega))
      have := s3 c (by omega)
      unfold wb_X8_fill_2
      refine ⟨fun z => absurd ((cmp_le (a := 6) (by decide) (by omega)).mp z) (by omega), fun _ => ?_⟩
      rw [nI_ofNat 1, nI_add]
      refine c_digit hL x1 (by omega) (by omega) ⟨?_, ?_⟩
      · rw [l27]; exact (vp_nI (by omega)).mpr (by omega)
      · intro m6 e6 x7 h7
        rw [cl (by omega)] at e6
        rw [h7, nI_add]
        refine ih (c + 1) m6 (by omega) (f1.tr (by subst e6; exact ⟨rfl, fun q a _ => ct_st_ne (by omega)⟩)) (by subst e6; rw [ct_st_ne (by decide)]; exact t1) (fun i hi => ?_)
        subst e6
        rw [show 26 + 1 = 27 from rfl, ct_st_eq]
        by_cases e : i = c
        · subst e; rw [upd_same]
        · rw [upd_ne _ _ e]; exact v1 i (by omega)
  unfold wp_X8_fill
  exact ⟨7, dig 6 0 m (by omega) FFr.rf rfl (fun i hi => absurd hi (Nat.not_lt_zero i))⟩
theorem c_zero {a : Nat} {Q : ct_M → Prop} {m : ct_M} (ha : ct_ln a = 6) (h : ∀ v : Row, (∀ i, i < 6 → v i = 0) → Q (pr m a v)) : wp_J7_fill_53178 a (0 : Int32) Q m := by
  have loop : ∀ (n j : Nat) (v : Row), j + n = 6 → (∀ i, i < j → v i = 0) → wb_J7_fill_53178_5 Q (n + 1) a (0 : Int32) (nI j) (nI 6) (pr m a v) := by
    intro n
    induction n with
    | zero =>
      intro j v hj hv
      have : j = 6 := by omega
      subst this
      unfold wb_J7_fill_53178_5
      exact ⟨fun _ => h v hv, fun z => absurd ((cmp_le (by decide) (by decide)).mpr (Nat.le_refl _)) z⟩
    | succ n ih =>
      intro j v hj hv
      unfold wb_J7_fill_53178_5
      refine ⟨fun z => absurd ((cmp_le (by omega) (by omega)).mp z) (by omega), fun _ => ?_⟩
      rw [ha]
      refine ⟨(vp_nI (by omega)).mpr (by omega), ?_⟩
      intro m2 e2 x3 h3
      rw [cl (by omega), pr_st, pr_pr, pr_at] at e2
      rw [h3, nI_ofNat 1, nI_add, e2]
      refine ih (j + 1) _ (by omega) (fun i hi => ?_)
      by_cases e : i = j
      · subst e; exact upd_same _ _ _
      · rw [upd_ne _ _ e]; exact hv i (by omega)
  unfold wp_J7_fill_53178
  intro x1 h1
  rw [ha] at h1
  rw [h1]
  refine ⟨7, ?_⟩
  have := loop 6 0 (m.1 a) (by omega) (fun i hi => absurd hi (Nat.not_lt_zero i))
  rw [pr_id] at this
  exact this
/-- the class's load behind its check -/
theorem c_clear {Q : ct_M → Prop} {m : ct_M} (h : ∀ m', m'.2 = m.2 → (∀ q, q ≠ 26 → q ≠ 27 → q ≠ 28 → m'.1 q = m.1 q) → (∀ i, i < 6 → m'.1 27 i = 0 ∧ m'.1 28 i = 0) → m'.1 26 = upd (upd (m.1 26) 3 0) 7 0 → Q m') : wp_X10_clear 26 Q m := by
  unfold wp_X10_clear
  refine c_zero (a := 26 + 1) (by decide +kernel) (fun v hv => c_zero (a := 26 + 2) (by decide +kernel) (fun u hu => ?_))
  intro m5 e5 m6 e6
  refine h m6 (by subst e6 e5; rfl) (fun q q1 q2 q3 => ?_) (fun i hi => ⟨?_, ?_⟩) ?_
  · subst e6 e5; rw [ct_st_ne q1, ct_st_ne q1, pr_ne _ _ q3, pr_ne _ _ q2]
  · subst e6 e5
    rw [ct_st_ne (by decide), ct_st_ne (by decide), pr_ne _ _ (by decide), show 26 + 1 = 27 from rfl, pr_at]; exact hv i hi
  · subst e6 e5
    rw [ct_st_ne (by decide), ct_st_ne (by decide), show 26 + 2 = 28 from rfl, pr_at]; exact hu i hi
  · subst e6 e5
    rw [ct_st_eq, ct_st_eq, pr_ne _ _ (by decide), pr_ne _ _ (by decide)]
