/-! save and restore -/
theorem r_save {s : Nat} {Q : Int32 → ct_M → Prop} {m : ct_M} (hs : s < 2) (h : wp_X12_doneThreads 1023 Q (pr m 1033 (fun i => if 172 * s ≤ i ∧ i < 172 * s + 172 then m.1 1030 (i - 172 * s) else m.1 1033 i))) : ∃ n, wb_X12_save_26 Q n 1023 (nI s) (0 : Int32) m := by
  have l33 : ct_ln (1023 + 10) = 344 := by decide
  have loop : ∀ (n j : Nat), j + n = 172 → wb_X12_save_26 Q (n + 1) 1023 (nI s) (nI j) (pr m 1033 (fun i => if 172 * s ≤ i ∧ i < 172 * s + j then m.1 1030 (i - 172 * s) else m.1 1033 i)) := by
    intro n
    induction n with
    | zero =>
      intro j hj
      have : j = 172 := by omega
      subst this
      unfold wb_X12_save_26
      exact ⟨fun _ => h, fun e => absurd (by decide) e⟩
    | succ n ih =>
      intro j hj
      have nx := ih (j + 1) (by omega)
      unfold wb_X12_save_26
      simp (disch := omega) only [nI_ofNat, cmp_le, pk_mul, nI_add, vp_nI, cl, fa_eq, ln1030, l33]
      refine ⟨fun e => absurd e (by omega), fun _ => ⟨by omega, by omega, ?_⟩⟩
      rw [show 1023 + 10 = 1033 from rfl, show 1023 + 7 = 1030 from rfl, pr_ne _ _ (by decide : (1030 : Nat) ≠ 1033), pr_stpr]
      refine cast (congrArg (fun r => wb_X12_save_26 Q (n + 1) 1023 (nI s) (nI (j + 1)) (pr m 1033 r)) ?_) nx
      funext i
      simp only [upd]
      by_cases e : i = 172 * s + j
      · subst e; rw [if_pos (by omega), if_pos rfl, Nat.add_sub_cancel_left]
      · rw [if_neg e]
        by_cases e2 : 172 * s ≤ i ∧ i < 172 * s + j
        · rw [if_pos (by omega), if_pos e2]
        · rw [if_neg (by omega), if_neg e2]
  have := loop 172 0 rfl
  have e0 : (fun i => if 172 * s ≤ i ∧ i < 172 * s + 0 then m.1 1030 (i - 172 * s) else m.1 1033 i) = m.1 1033 := by funext i; rw [if_neg (by omega)]
  rw [e0, pr_id] at this
  exact ⟨173, this⟩
theorem r_restore {s : Nat} {Q : Int32 → ct_M → Prop} {m : ct_M} (hs : s < 2) (h : wp_X12_doneThreads 1023 Q (ct_st (pr m 1030 (rInto (m.1 1030) (srow m s) 172)) 1023 13 0)) : ∃ n, wb_X12_restore_31 Q n 1023 (nI s) (0 : Int32) m := by
  have l33 : ct_ln (1023 + 10) = 344 := by decide
  have loop : ∀ (n j : Nat), j + n = 172 → wb_X12_restore_31 Q (n + 1) 1023 (nI s) (nI j) (pr m 1030 (rInto (m.1 1030) (srow m s) j)) := by
    intro n
    induction n with
    | zero =>
      intro j hj
      have : j = 172 := by omega
      subst this
      unfold wb_X12_restore_31
      refine ⟨fun _ => ?_, fun e => absurd (by decide) e⟩
      intro m2 e2
      subst e2
      exact h
    | succ n ih =>
      intro j hj
      have nx := ih (j + 1) (by omega)
      unfold wb_X12_restore_31
      simp (disch := omega) only [nI_ofNat, cmp_le, pk_mul, nI_add, vp_nI, cl, fa_eq, ln1030, l33]
      refine ⟨fun e => absurd e (by omega), fun _ => ⟨by omega, by omega, ?_⟩⟩
      rw [show 1023 + 10 = 1033 from rfl, show 1023 + 7 = 1030 from rfl, pr_ne _ _ (by decide : (1033 : Nat) ≠ 1030), pr_stpr]
      have : upd (rInto (m.1 1030) (srow m s) j) j (m.1 1033 (172 * s + j)) = rInto (m.1 1030) (srow m s) (j + 1) := rInto_step _ _ _
      rw [this]
      exact nx
  have := loop 172 0 rfl
  rw [rInto_0, pr_id] at this
  exact ⟨173, this⟩
theorem slot_cls {p : Int32} (h1 : ¬ p < 0) (h2 : p < 2) : ∃ s : Nat, s < 2 ∧ p = nI s := by
  obtain ⟨n, hn, e⟩ := nI_of h1
  rw [e] at h2
  exact ⟨n, (cmp_lt (b := 2) hn (by decide)).mp h2, e⟩
theorem slot_not {p : Int32} (h : p < 0 ∨ ¬ p < 2) : ∀ s : Nat, s < 2 → ¬ p = nI s := by
  intro s hs e
  rw [e] at h
  rcases h with z | z
  · exact absurd z (nI_pos (by omega))
  · exact z ((cmp_lt (b := 2) (by omega) (by decide)).mpr hs)
theorem k_save {B : Nat} {K : ct_M → Prop} {X : Prop} {p : Int32} {m : ct_M} (h : INV B m) (hX : X) (hK : ∀ m', INV (B + 400) m' → K m') : wp_X11_save 0 p (fun r m1 => X ∧ wp_X12_save 1023 p (Same K r) m1) m := by
  have hk : ∀ x, K (ct_st m 1023 0 x) := fun x => hK _ ((INV_0 h x).mono (by omega))
  obtain ⟨hok, ⟨L, t1, t2, t3, t4⟩, ⟨O, P, o1, o2, o3, o4, o5, o6⟩, G, T, N, D, hcore, ⟨H, R, g1, g2, g3, g4, g5, g6⟩, hsl⟩ := h
  obtain ⟨c1, c2, c3, c4, c5, c6, c7, c8⟩ := id hcore
  have tr := RWf_TR c5 c8
  have l6 : ct_ln (0 + 6) = 2 := by decide +kernel
  have l7 : ct_ln (0 + 7) = 2 := by decide +kernel
  have l34 : ct_ln (1023 + 11) = 2 := by decide
  have bn : vp_nar .boolean (1 : Int32) = 1 := by decide +kernel
  have bad : (p < 0 ∨ ¬ p < 2) → wp_X12_save 1023 p (Same K (-1)) m := by
    intro hb
    unfold wp_X12_save
    intro m1 e1
    subst e1
    exact r_lim (k := 2) (by decide) rfl (fun c hc e => absurd e (slot_not hb c hc)) (fun _ => ⟨fun z => absurd rfl z, fun _ => Same.mk (hk _)⟩)
  unfold wp_X11_save
  refine ⟨fun e => ⟨hX, bad (Or.inl e)⟩, fun e => ⟨fun e2 => ?_, fun e2 => ⟨hX, bad (Or.inr e2)⟩⟩⟩
  obtain ⟨s, hs, es⟩ := slot_cls e e2
  subst es
  have el : ct_elW (0 + 6) s = 808 + 52 * s := rfl
  simp (disch := omega) only [vp_nI, cl, l6, l7, el]
  refine ⟨hs, ?_⟩
  refine c_wcopy (K_slot hs) K_26 (hok _ K_26) (by omega) (fun m1 f1 cp ok1 => ⟨hs, ?_⟩)
  intro m2 e2
  rw [bn] at e2
  have o12 : ∀ q, q ≠ 7 → m2.1 q = m1.1 q := fun q hq => by subst e2; exact ct_st_ne hq
  have s7 : m2.1 7 = upd (m.1 7) s 1 := by subst e2; rw [show 0 + 7 = 7 from rfl, ct_st_eq, f1.2 _ (by omega)]
  have rw26 : RW G m2 26 (m.1 1030) T := RW_mem c7 c2 tr fun q q1 q2 => by rw [o12 q (by omega), f1.2 q (by omega)]
  have far : ∀ q, q ≠ 7 → (q < 808 + 52 * s ∨ 808 + 52 * s + 52 ≤ q) → m2.1 q = m.1 q := fun q q1 q2 => by rw [o12 q q1, f1.2 q q2]
  refine c_done (b := 26) (G := G) (T := T) (v := m.1 1030) K_26 c2 rw26 ⟨hX, ?_⟩
  unfold wp_X12_save
  intro m3 e3
  have f3 : ∀ q, q ≠ 1023 → m3.1 q = m2.1 q := fun q hq => by subst e3; exact ct_st_ne hq
  have s3 : ∀ j, j ≠ 0 → m3.1 1023 j = m.1 1023 j := fun j hj => by subst e3; rw [ct_st_eq, upd_ne _ _ hj, far _ (by omega) (by omega)]
  refine r_lim (k := 2) (by decide) rfl (fun c hc e => ⟨fun _ => ?_, fun z => absurd z (by decide)⟩) (fun z => absurd rfl (z s hs))
  simp (disch := omega) only [vp_nI, cl, l34]
  refine ⟨hs, ?_⟩
  intro m6 e6
  rw [bn] at e6
  have f6 : ∀ q, q ≠ 1023 → q ≠ 1034 → m6.1 q = m2.1 q := fun q q1 q2 => by subst e6; rw [ct_st_ne q2, f3 q q1]
  have s6 : ∀ j, j ≠ 0 → m6.1 1023 j = m.1 1023 j := fun j hj => by subst e6; rw [ct_st_ne (by decide)]; exact s3 j hj
  have s34 : m6.1 1034 = upd (m.1 1034) s 1 := by subst e6; rw [show 1023 + 11 = 1034 from rfl, ct_st_eq, f3 _ (by decide), far _ (by omega) (by omega)]
  have e630 : m6.1 1030 = m.1 1030 := by rw [f6 _ (by decide) (by decide), far _ (by omega) (by omega)]
  refine r_save hs ?_
  generalize hu : (fun i => if 172 * s ≤ i ∧ i < 172 * s + 172 then m6.1 1030 (i - 172 * s) else m6.1 1033 i) = u
  refine r_done (v := m.1 1030) c2 (by rw [pr_ne _ _ (by decide), s6 4 (by decide)]; exact c4) (fun i _ => by rw [pr_ne _ _ (by decide), e630]) ?_
  refine Same.mk (hK _ (INV.mono (B := B) ?_ (by omega)))
  have oM : ∀ q, q ≠ 1033 → (pr m6 1033 u).1 q = m6.1 q := fun q hq => pr_ne _ _ hq
  have M2 : ∀ q, q ≠ 7 → q ≠ 1023 → q ≠ 1033 → q ≠ 1034 → (q < 808 + 52 * s ∨ 808 + 52 * s + 52 ≤ q) → (pr m6 1033 u).1 q = m.1 q := fun q a1 a2 a3 a4 a5 => by rw [oM q a3, f6 q a2 a4, far q a1 a5]
  have Ms : ∀ j, j ≠ 0 → (pr m6 1033 u).1 1023 j = m.1 1023 j := fun j hj => by rw [oM _ (by decide)]; exact s6 j hj
  refine ⟨?_, ⟨L, t1, ?_, ?_, fun k hk => ?_⟩, ⟨O, P, o1, o2, ?_, ?_, ?_, fun i hi => ?_⟩, G, T, N, D, ⟨c1, c2, fun k k1 k2 => ?_, ?_, c5, fun s' hs' => ?_, ?_, ?_⟩, ⟨H, R, g1, g2, ?_, ?_, ?_, fun i hi => ?_⟩, fun s' hs' => ?_⟩
  · exact (hok.keep (K_slot hs) f1).same fun q hq => by
      have := kd4_low hq
      rw [oM q (by omega), f6 q (by omega) (by omega), o12 q (by rintro rfl; exact absurd hq (by decide +kernel))]
  · rw [M2 _ (by omega) (by omega) (by omega) (by omega) (by omega)]; exact t2
  · rw [Ms 2 (by decide)]; exact t3
  · rw [M2 2 (by omega) (by omega) (by omega) (by omega) (by omega), M2 1024 (by omega) (by omega) (by omega) (by omega) (by omega)]; exact t4 k hk
  · rw [M2 _ (by omega) (by omega) (by omega) (by omega) (by omega)]; exact o3
  · rw [M2 _ (by omega) (by omega) (by omega) (by omega) (by omega)]; exact o4
  · rw [Ms 16 (by decide)]; exact o5
  · rw [M2 9 (by omega) (by omega) (by omega) (by omega) (by omega), M2 10 (by omega) (by omega) (by omega) (by omega) (by omega), M2 1035 (by omega) (by omega) (by omega) (by omega) (by omega), M2 1036 (by omega) (by omega) (by omega) (by omega) (by omega)]; exact o6 i hi
  · rw [M2 k (by omega) (by omega) (by omega) (by omega) (by omega)]; exact c3 k k1 k2
  · rw [Ms 4 (by decide)]; exact c4
  · obtain ⟨p1, p2⟩ := c6 s' hs'
    refine ⟨by rw [M2 _ (by omega) (by omega) (by omega) (by omega) (by omega)]; exact p1, fun k hk => ?_⟩
    rw [M2 (11 + 5 * s' + 1) (by omega) (by omega) (by omega) (by omega) (by omega), M2 (11 + 5 * s' + 2) (by omega) (by omega) (by omega) (by omega) (by omega), M2 (11 + 5 * s' + 3) (by omega) (by omega) (by omega) (by omega) (by omega)]
    exact p2 k hk
  · rw [M2 1030 (by omega) (by omega) (by omega) (by omega) (by omega)]
    exact RW_mem c7 c2 tr fun q q1 q2 => M2 q (by omega) (by omega) (by omega) (by omega) (by omega)
  · rw [M2 1030 (by omega) (by omega) (by omega) (by omega) (by omega)]; exact c8
  · rw [M2 _ (by omega) (by omega) (by omega) (by omega) (by omega)]; exact g3
  · rw [M2 _ (by omega) (by omega) (by omega) (by omega) (by omega)]; exact g4
  · rw [Ms 13 (by decide)]; exact g5
  · obtain ⟨a1, a2⟩ := g6 i hi
    have e : hrow (pr m6 1033 u) i = hrow m i := by unfold hrow; rw [M2 1032 (by omega) (by omega) (by omega) (by omega) (by omega)]
    rw [e]
    exact ⟨RW_mem a1 c2 (RWf_TR c5 a2) fun q q1 q2 => M2 q (by omega) (by omega) (by omega) (by omega) (by omega), a2⟩
  · have e7 : (pr m6 1033 u).1 7 = upd (m.1 7) s 1 := by rw [oM _ (by decide), f6 _ (by decide) (by decide)]; exact s7
    have e34 : (pr m6 1033 u).1 1034 = upd (m.1 1034) s 1 := by rw [oM _ (by decide)]; exact s34
    rw [e7, e34]
    by_cases ess : s' = s
    · subst ess
      rw [upd_same, upd_same]
      have er : ∀ i, i < 172 → srow (pr m6 1033 u) s' i = m.1 1030 i := fun i hi => by
        unfold srow
        rw [pr_at, ← hu]
        show (if 172 * s' ≤ 172 * s' + i ∧ 172 * s' + i < 172 * s' + 172 then m6.1 1030 (172 * s' + i - 172 * s') else m6.1 1033 (172 * s' + i)) = _
        rw [if_pos (by omega), Nat.add_sub_cancel_left, e630]
      have rws : RW G (pr m6 1033 u) (808 + 52 * s') (m.1 1030) T := RW_mem (cp G _ T c2 tr c7) c2 tr fun q q1 q2 => by rw [oM q (by omega), f6 q (by omega) (by omega), o12 q (by omega)]
      exact Or.inr ⟨rfl, rfl, RW_row rws c2 tr er, RWf_row c5 c2 c8 er⟩
    · rw [upd_ne _ _ ess, upd_ne _ _ ess]
      have er : ∀ i, i < 172 → srow (pr m6 1033 u) s' i = srow m s' i := fun i hi => by
        unfold srow
        rw [pr_at, ← hu]
        show (if 172 * s ≤ 172 * s' + i ∧ 172 * s' + i < 172 * s + 172 then m6.1 1030 (172 * s' + i - 172 * s) else m6.1 1033 (172 * s' + i)) = _
        rw [if_neg (by omega), f6 _ (by decide) (by decide), far _ (by omega) (by omega)]
      rcases hsl s' hs' with z | ⟨z1, z2, z3, z4⟩
      · exact Or.inl z
      · exact Or.inr ⟨z1, z2, RW_row (RW_mem z3 c2 (RWf_TR c5 z4) fun q q1 q2 => M2 q (by omega) (by omega) (by omega) (by omega) (by omega)) c2 (RWf_TR c5 z4) er, RWf_row c5 c2 z4 er⟩
