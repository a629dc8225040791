theorem k_restore {B : Nat} {K : ct_M → Prop} {X : Prop} {p : Int32} {m : ct_M} (h : INV B m) (hX : X) (hK : ∀ m', INV (B + 400) m' → K m') : wp_X11_restore 0 p (fun r m1 => X ∧ wp_X12_restore 1023 p (Same K r) m1) m := by
  have hk : ∀ x, K (ct_st m 1023 0 x) := fun x => hK _ ((INV_0 h x).mono (by omega))
  obtain ⟨hok, hx, hob, G, T, N, D, hcore, ⟨H, P, g1, g2, g3, g4, g5, g6⟩, hsl⟩ := h
  obtain ⟨c1, c2, c3, c4, c5, c6, c7, c8⟩ := id hcore
  have l6 : ct_ln (0 + 6) = 2 := by decide +kernel
  have l7 : ct_ln (0 + 7) = 2 := by decide +kernel
  have l34 : ct_ln (1023 + 11) = 2 := by decide
  have bad : (p < 0 ∨ ¬ p < 2) → wp_X12_restore 1023 p (Same K (-1)) m := by
    intro hb
    unfold wp_X12_restore
    intro m1 e1
    subst e1
    exact r_lim (k := 2) (by decide) rfl (fun c hc e => absurd e (slot_not hb c hc)) (fun _ => ⟨fun z => absurd rfl z, fun _ => Same.mk (hk _)⟩)
  unfold wp_X11_restore
  refine ⟨fun e => ⟨hX, bad (Or.inl e)⟩, fun e => ⟨fun e2 => ?_, fun e2 => ⟨hX, bad (Or.inr e2)⟩⟩⟩
  obtain ⟨s, hs, es⟩ := slot_cls e e2
  subst es
  have el : ct_elW (0 + 6) s = 808 + 52 * s := rfl
  simp (disch := omega) only [vp_nI, cl, l6, l7, el, show 0 + 7 = 7 from rfl]
  refine ⟨hs, ?_⟩
  rcases hsl s hs with ⟨z1, z2⟩ | ⟨z1, z2, z3, z4⟩
  · rw [z1]
    refine ⟨fun z => absurd rfl z, fun _ => ⟨hX, ?_⟩⟩
    unfold wp_X12_restore
    intro m1 e1
    subst e1
    refine r_lim (k := 2) (by decide) rfl (fun c hc e => ⟨fun _ => ?_, fun z => absurd z (by decide)⟩) (fun z => absurd rfl (z s hs))
    simp (disch := omega) only [vp_nI, cl, l34]
    rw [ct_st_ne (by decide), show 1023 + 11 = 1034 from rfl, z2]
    exact ⟨hs, fun z => absurd rfl z, fun _ => Same.mk (hk _)⟩
  · rw [z1]
    refine ⟨fun _ => ⟨hs, ?_⟩, fun z => absurd z (by decide)⟩
    have tr := RWf_TR c5 z4
    refine c_wcopy K_26 (K_slot hs) (hok _ (K_slot hs)) (by omega) (fun m1 f1 cp ok1 => ?_)
    unfold wp_X1_forgetAll
    intro m2 e2
    have o2 : ∀ q, q ≠ 78 → m2.1 q = m1.1 q := fun q hq => by subst e2; exact ct_st_ne hq
    have s78 : m2.1 78 = upd (m.1 78) 1 0 := by subst e2; rw [show 0 + 78 = 78 from rfl, ct_st_eq, f1.2 _ (by omega)]
    have far : ∀ q, q ≠ 78 → (q < 26 ∨ 78 ≤ q) → m2.1 q = m.1 q := fun q q1 q2 => by rw [o2 q q1, f1.2 q (by omega)]
    have rw2 : RW G m2 26 (srow m s) T := RW_mem (cp G _ T c2 tr z3) c2 tr fun q q1 q2 => o2 q (by omega)
    refine c_done (b := 26) (G := G) (T := T) (v := srow m s) K_26 c2 rw2 ⟨hX, ?_⟩
    unfold wp_X12_restore
    intro m3 e3
    have f3 : ∀ q, q ≠ 1023 → m3.1 q = m2.1 q := fun q hq => by subst e3; exact ct_st_ne hq
    have s3 : ∀ j, j ≠ 0 → m3.1 1023 j = m.1 1023 j := fun j hj => by subst e3; rw [ct_st_eq, upd_ne _ _ hj, far _ (by omega) (by omega)]
    refine r_lim (k := 2) (by decide) rfl (fun c hc e => ⟨fun _ => ?_, fun z => absurd z (by decide)⟩) (fun z => absurd rfl (z s hs))
    simp (disch := omega) only [vp_nI, cl, l34]
    refine ⟨hs, fun _ => ?_, fun z => ?_⟩
    · refine r_restore hs ?_
      have er : srow m3 s = srow m s := by unfold srow; rw [f3 _ (by decide), far _ (by omega) (by omega)]
      rw [er]
      generalize hv' : rInto (m3.1 1030) (srow m s) 172 = v'
      have ev : ∀ i, i < 172 → v' i = srow m s i := fun i hi => by rw [← hv']; exact if_pos hi
      generalize hM : ct_st (pr m3 1030 v') 1023 13 0 = M
      have oM : ∀ q, q ≠ 1030 → q ≠ 1023 → M.1 q = m3.1 q := fun q q1 q2 => by rw [← hM, ct_st_ne q2, pr_ne _ _ q1]
      have sM : ∀ j, j ≠ 13 → M.1 1023 j = m3.1 1023 j := fun j hj => by rw [← hM, ct_st_eq, upd_ne _ _ hj, pr_ne _ _ (by decide)]
      have s13 : M.1 1023 13 = 0 := by rw [← hM, ct_st_eq, upd_same]
      have e30 : M.1 1030 = v' := by rw [← hM, ct_st_ne (by decide), pr_at]
      refine r_done (v := srow m s) c2 (by rw [sM 4 (by decide), s3 4 (by decide)]; exact c4) (fun i hi => by rw [e30]; exact ev i hi) ?_
      refine Same.mk (hK _ (INV.mono (B := B) ?_ (by omega)))
      have wf' : RWf G T N D B v' := RWf_row c5 c2 z4 ev
      have rw' : RW G m2 26 v' T := RW_row rw2 c2 tr ev
      have low : ∀ q, q < 1023 → M.1 q = m2.1 q := fun q hq => by rw [oM q (by omega) (by omega), f3 q (by omega)]
      refine INV_new (B := B) (by omega) hx hob hcore hsl (fun q hq => ?_) (fun j hj => ?_) (fun q hq => ?_) ?_ ?_ (by rw [e30]; exact wf') ⟨0, P, by omega, by omega, ?_, ?_, ?_, fun i hi => absurd hi (by omega)⟩
      · rw [low q (by omega), far q (by omega) (by omega)]
      · rw [sM j (by omega), s3 j (by omega)]
      · rw [oM q (by omega) (by omega), f3 q (by omega), far q (by omega) (by omega)]
      · exact (hok.keep K_26 f1).same fun q hq => by
          rw [low q (kd4_low hq), o2 q (by rintro rfl; exact absurd hq (by decide +kernel))]
      · rw [e30]
        exact RW_mem rw' c2 (RWf_TR c5 wf') fun q q1 q2 => low q (by omega)
      · rw [low 78 (by omega), s78, upd_same]; rfl
      · rw [low 78 (by omega), s78, upd_ne _ _ (by decide)]; exact g4
      · rw [s13]; rfl
    · exfalso
      rw [f3 _ (by decide), far _ (by decide) (by decide), show 1023 + 11 = 1034 from rfl, z2] at z
      exact absurd z (by decide)
/-! observe -/
theorem k_observe {B : Nat} {K : ct_M → Prop} {X Y : Prop} {p q : Int32} {m : ct_M} (h : INV B m) (hX : X) (hY : Y) (hK : ∀ m', INV (B + 400) m' → K m') : wp_X11_observe 0 p q (fun r m1 => X ∧ Y ∧ wp_X12_observe 1023 p q (Same K r) m1) m := by
  have hk : ∀ x, K (ct_st m 1023 0 x) := fun x => hK _ ((INV_0 h x).mono (by omega))
  obtain ⟨hok, hx, ⟨O, P, o1, o2, o3, o4, o5, o6⟩, G, T, N, D, hcore, hh, hsl⟩ := id h
  have l9 : ct_ln (0 + 8 + 1) = 4 := by decide +kernel
  have l10 : ct_ln (0 + 8 + 2) = 4 := by decide +kernel
  have l35 : ct_ln (1023 + 12) = 4 := by decide
  have l36 : ct_ln (1023 + 13) = 4 := by decide
  unfold wp_X11_observe wp_X12_observe
  refine c_isCell' (fun c hc e => ⟨fun _ => ?_, fun z => absurd z (by decide)⟩) (fun e => ⟨fun z => absurd rfl z, fun _ => ⟨hX, hY, ?_⟩⟩)
  · subst e
    refine c_isV (fun hq => ⟨fun _ => ?_, fun z => absurd z (by decide)⟩) (fun hq => ⟨fun z => absurd rfl z, fun _ => ⟨hX, hY, ?_⟩⟩)
    · unfold wp_X3_add
      rw [show m.1 (0 + 8) 3 = nI P from o4]
      refine ⟨fun e => absurd e (nI_pos (by omega)), fun _ => ⟨fun _ => ?_, fun e => absurd ((cmp_lt (b := 4) (by omega) (by decide)).mpr o2) e⟩⟩
      simp (disch := omega) only [vp_nI, cl, l9]
      refine ⟨o2, ?_⟩
      intro m4 e4
      have q4 : m4.1 8 = m.1 8 := by subst e4; exact ct_st_ne (by decide)
      rw [show m4.1 (0 + 8) 3 = nI P by rw [show 0 + 8 = 8 from rfl, q4]; exact o4]
      simp (disch := omega) only [vp_nI, cl, l10]
      refine ⟨o2, ?_⟩
      intro m6 e6
      have q6 : m6.1 8 = m.1 8 := by subst e6; rw [ct_st_ne (by decide)]; exact q4
      rw [show m6.1 (0 + 8) 3 = nI P by rw [show 0 + 8 = 8 from rfl, q6]; exact o4]
      have nine : m6.1 9 = upd (m.1 9) P (nI c) := by subst e6 e4; rw [ct_st_ne (by decide), show 0 + 8 + 1 = 9 from rfl, ct_st_eq]
      have ten : m6.1 10 = upd (m.1 10) P q := by subst e6 e4; rw [show 0 + 8 + 2 = 10 from rfl, ct_st_eq, ct_st_ne (by decide)]
      have oth6 : ∀ r, r ≠ 9 → r ≠ 10 → m6.1 r = m.1 r := fun r r1 r2 => by subst e6 e4; rw [ct_st_ne r2, ct_st_ne r1]
      have fin : ∀ s0 : Int32, s0 = nI ((P + 1) % 4) → wb_X3_add_57 (fun m8 : ct_M => X ∧ Y ∧ ∀ m1 : ct_M, m1 = ct_st m8 1023 0 (0 : Int32) → wp_X12_noCell (nI c) (fun (r3 : Int32) (m2 : ct_M) => ((r3 = 0 → wp_X12_in q.toInt64 (-99 : Int64) (99 : Int64) (fun (r6 : Int32) (m5 : ct_M) => ((¬ r6 = 0 → ((¬ (m5.1 1023 16) = (4 : Int32) → wb_X12_observe_90 (Same K (m8.1 (0 + 8) 2)) 1023 (nI c) q m5) ∧ ((m5.1 1023 16) = (4 : Int32) → (∃ n9, wb_X12_observe_41 (Same K (m8.1 (0 + 8) 2)) n9 1023 (nI c) q (0 : Int32) m5)))) ∧ (r6 = 0 → Same K (m8.1 (0 + 8) 2) (-2 : Int32) m5))) m2) ∧ (¬ r3 = 0 → Same K (m8.1 (0 + 8) 2) (-1 : Int32) m2))) m1) (0 + 8) s0 (0 + 8) m6 := by
        intro s0 es
        subst es
        unfold wb_X3_add_57
        intro m7 e7 m8 e8
        have s82 : m8.1 8 2 = nI (if O < 4 then O + 1 else 4) := by
          subst e8 e7
          rw [show 0 + 8 = 8 from rfl, ct_st_eq, upd_same, ct_st_eq, upd_ne _ _ (by decide), q6, o3]
          exact (by decide : ∀ O, O < 5 → (if (4 : Int32) < nI O + 1 then (4 : Int32) else nI O + 1) = nI (if O < 4 then O + 1 else 4)) O (by omega)
        have s83 : m8.1 8 3 = nI ((P + 1) % 4) := by
          subst e8 e7
          rw [show 0 + 8 = 8 from rfl, ct_st_eq, upd_ne _ _ (by decide), ct_st_eq, upd_same]
        have oth8 : ∀ r, r ≠ 8 → m8.1 r = m6.1 r := fun r r1 => by subst e8 e7; rw [ct_st_ne r1, ct_st_ne r1]
        refine ⟨hX, hY, ?_⟩
        intro m1 e1
        rw [show m8.1 (0 + 8) 2 = nI (if O < 4 then O + 1 else 4) from s82]
        refine r_noCell (fun c' hc' e' => ⟨fun _ => ?_, fun z => absurd rfl z⟩) (fun e => absurd rfl (e c hc))
        refine r_isV (fun _ => ⟨fun _ => ?_, fun z => absurd z (by decide)⟩) (fun z => absurd hq z)
        have oth1 : ∀ r, r ≠ 8 → r ≠ 9 → r ≠ 10 → r ≠ 1023 → m1.1 r = m.1 r := fun r r1 r2 r3 r4 => by subst e1; rw [ct_st_ne r4, oth8 r r1, oth6 r r2 r3]
        have s1 : ∀ j, j ≠ 0 → m1.1 1023 j = m.1 1023 j := fun j hj => by subst e1; rw [ct_st_eq, upd_ne _ _ hj, oth8 _ (by decide), oth6 _ (by decide) (by decide)]
        have low1 : ∀ r, r < 1023 → m1.1 r = m8.1 r := fun r hr => by subst e1; exact ct_st_ne (by omega)
        -- the end, from rows of O' observations
        have last : ∀ (O' : Nat) (m2 : ct_M), O' < 4 → O' + 1 = (if O < 4 then O + 1 else 4) → (∀ r, r ≠ 1023 → r ≠ 1035 → r ≠ 1036 → m2.1 r = m1.1 r) → (∀ j, j ≠ 16 → m2.1 1023 j = m1.1 1023 j) → m2.1 1023 16 = nI O' → (∀ i, i < O' → m2.1 1035 i = m.1 1035 (i + (O - O')) ∧ m2.1 1036 i = m.1 1036 (i + (O - O'))) → wb_X12_observe_90 (Same K (nI (if O < 4 then O + 1 else 4))) 1023 (nI c) q m2 := by
          intro O' m2 hO' eO g1 g2 g3 g4
          unfold wb_X12_observe_90
          rw [g3]
          simp (disch := omega) only [vp_nI, cl, l35]
          refine ⟨hO', ?_⟩
          intro m3 e3
          have t3 : m3.1 1023 16 = nI O' := by subst e3; rw [ct_st_ne (by decide)]; exact g3
          rw [t3]
          simp (disch := omega) only [vp_nI, cl, l36]
          refine ⟨hO', ?_⟩
          intro m5 e5 m7 e7
          have t5 : m5.1 1023 16 = nI O' := by subst e5; rw [ct_st_ne (by decide)]; exact t3
          rw [t5, nI_ofNat 1, nI_add] at e7
          have t7 : m7.1 1023 16 = nI (O' + 1) := by subst e7; rw [ct_st_eq, upd_same]
          rw [t7, eO]
          have w35 : m7.1 1035 = upd (m2.1 1035) O' (nI c) := by subst e7 e5 e3; rw [ct_st_ne (by decide), ct_st_ne (by decide), show 1023 + 12 = 1035 from rfl, ct_st_eq]
          have w36 : m7.1 1036 = upd (m2.1 1036) O' q := by subst e7 e5 e3; rw [ct_st_ne (by decide), show 1023 + 13 = 1036 from rfl, ct_st_eq, ct_st_ne (by decide)]
          have oth7 : ∀ r, r ≠ 1023 → r ≠ 1035 → r ≠ 1036 → m7.1 r = m1.1 r := fun r r1 r2 r3 => by subst e7 e5 e3; rw [ct_st_ne r1, ct_st_ne r3, ct_st_ne r2]; exact g1 r r1 r2 r3
          have s7 : ∀ j, j ≠ 16 → m7.1 1023 j = m1.1 1023 j := fun j hj => by subst e7 e5 e3; rw [ct_st_eq, upd_ne _ _ hj, ct_st_ne (by decide), ct_st_ne (by decide)]; exact g2 j hj
          have all7 : ∀ r, r ≠ 8 → r ≠ 9 → r ≠ 10 → r ≠ 1023 → r ≠ 1035 → r ≠ 1036 → m7.1 r = m.1 r := fun r a1 a2 a3 a4 a5 a6 => by rw [oth7 r a4 a5 a6, oth1 r a1 a2 a3 a4]
          have a8 : m7.1 8 = m8.1 8 := by rw [oth7 _ (by decide) (by decide) (by decide), low1 _ (by decide)]
          have a9 : m7.1 9 = upd (m.1 9) P (nI c) := by rw [oth7 _ (by decide) (by decide) (by decide), low1 _ (by decide), oth8 _ (by decide)]; exact nine
          have a10 : m7.1 10 = upd (m.1 10) P q := by rw [oth7 _ (by decide) (by decide) (by decide), low1 _ (by decide), oth8 _ (by decide)]; exact ten
          refine Same.mk (hK _ (INV.mono (B := B) ?_ (by omega)))
          obtain ⟨L, t1, t2, t3', t4⟩ := hx
          obtain ⟨c1, c2, c3, c4, c5, c6, c7, c8⟩ := hcore
          obtain ⟨H, R, h1, h2, h3, h4, h5, h6⟩ := hh
          have hOP : O' + 1 ≤ 4 ∧ (O' + 1 < 4 → (P + 1) % 4 = O' + 1) := by
            by_cases z : O < 4
            · rw [if_pos z] at eO; omega
            · rw [if_neg z] at eO; omega
          refine ⟨hok.same fun q hq => all7 q (by rintro rfl; exact absurd hq (by decide +kernel)) (by rintro rfl; exact absurd hq (by decide +kernel)) (by rintro rfl; exact absurd hq (by decide +kernel)) (by have := kd4_low hq; omega) (by have := kd4_low hq; omega) (by have := kd4_low hq; omega), ⟨L, t1, ?_, ?_, fun k hk => ?_⟩, ⟨O' + 1, (P + 1) % 4, hOP, by omega, ?_, ?_, t7, fun i hi => ?_⟩, G, T, N, D, ⟨c1, c2, fun k k1 k2 => ?_, ?_, c5, fun s hs => ?_, ?_, ?_⟩, ⟨H, R, h1, h2, ?_, ?_, ?_, fun i hi => ?_⟩, fun s hs => ?_⟩
          · rw [all7 _ (by omega) (by omega) (by omega) (by omega) (by omega) (by omega)]; exact t2
          · rw [s7 2 (by decide), s1 2 (by decide)]; exact t3'
          · rw [all7 2 (by omega) (by omega) (by omega) (by omega) (by omega) (by omega), all7 1024 (by omega) (by omega) (by omega) (by omega) (by omega) (by omega)]; exact t4 k hk
          · rw [a8, s82, eO]
          · rw [a8]; exact s83
          · rw [a9, a10, w35, w36]
            by_cases ei : i = O'
            · subst ei
              have : ((P + 1) % 4 + 4 - (i + 1) + i) % 4 = P := by omega
              rw [this, upd_same, upd_same, upd_same, upd_same]
              exact ⟨⟨c, hc, rfl, rfl⟩, hq, rfl⟩
            · have hiO : i < O' := by omega
              obtain ⟨v1, v2⟩ := g4 i hiO
              have hO : O = O' ∨ (O = 4 ∧ O' = 3) := by
                by_cases z : O < 4
                · rw [if_pos z] at eO; exact Or.inl (by omega)
                · rw [if_neg z] at eO; exact Or.inr (by omega)
              have pl : ((P + 1) % 4 + 4 - (O' + 1) + i) % 4 = (P + 4 - O + (i + (O - O'))) % 4 := by omega
              have pn : (P + 4 - O + (i + (O - O'))) % 4 ≠ P := by omega
              rw [pl, upd_ne _ _ pn, upd_ne _ _ pn, upd_ne _ _ ei, upd_ne _ _ ei, v1, v2]
              exact o6 (i + (O - O')) (by omega)
          · rw [all7 k (by omega) (by omega) (by omega) (by omega) (by omega) (by omega)]; exact c3 k k1 k2
          · rw [s7 4 (by decide), s1 4 (by decide)]; exact c4
          · obtain ⟨p1, p2⟩ := c6 s hs
            refine ⟨by rw [all7 _ (by omega) (by omega) (by omega) (by omega) (by omega) (by omega)]; exact p1, fun k hk => ?_⟩
            rw [all7 (11 + 5 * s + 1) (by omega) (by omega) (by omega) (by omega) (by omega) (by omega), all7 (11 + 5 * s + 2) (by omega) (by omega) (by omega) (by omega) (by omega) (by omega), all7 (11 + 5 * s + 3) (by omega) (by omega) (by omega) (by omega) (by omega) (by omega)]
            exact p2 k hk
          · rw [all7 1030 (by omega) (by omega) (by omega) (by omega) (by omega) (by omega)]
            exact RW_mem c7 c2 (RWf_TR c5 c8) fun q q1 q2 => all7 q (by omega) (by omega) (by omega) (by omega) (by omega) (by omega)
          · rw [all7 1030 (by omega) (by omega) (by omega) (by omega) (by omega) (by omega)]; exact c8
          · rw [all7 78 (by omega) (by omega) (by omega) (by omega) (by omega) (by omega)]; exact h3
          · rw [all7 78 (by omega) (by omega) (by omega) (by omega) (by omega) (by omega)]; exact h4
          · rw [s7 13 (by decide), s1 13 (by decide)]; exact h5
          · obtain ⟨b1, b2⟩ := h6 i hi
            have e : hrow m7 i = hrow m i := by unfold hrow; rw [all7 1032 (by omega) (by omega) (by omega) (by omega) (by omega) (by omega)]
            rw [e]
            exact ⟨RW_mem b1 c2 (RWf_TR c5 b2) fun q q1 q2 => all7 q (by omega) (by omega) (by omega) (by omega) (by omega) (by omega), b2⟩
          · have e : srow m7 s = srow m s := by unfold srow; rw [all7 1033 (by omega) (by omega) (by omega) (by omega) (by omega) (by omega)]
            rw [e, all7 7 (by omega) (by omega) (by omega) (by omega) (by omega) (by omega), all7 1034 (by omega) (by omega) (by omega) (by omega) (by omega) (by omega)]
            rcases hsl s hs with z | ⟨z1, z2, z3, z4⟩
            · exact Or.inl z
            · exact Or.inr ⟨z1, z2, RW_mem z3 c2 (RWf_TR c5 z4) (fun q q1 q2 => all7 q (by omega) (by omega) (by omega) (by omega) (by omega) (by omega)), z4⟩
        have e16 : m1.1 1023 16 = nI O := by rw [s1 16 (by decide)]; exact o5
        rw [e16]
        refine ⟨fun z => ?_, fun z => ?_⟩
        · have hO : O < 4 := by
            by_cases y : O = 4
            · exact absurd (by rw [y]; rfl) z
            · omega
          exact last O m1 hO (if_pos hO).symm (fun _ _ _ _ => rfl) (fun _ _ => rfl) e16 (fun i hi => by
            rw [oth1 1035 (by decide) (by decide) (by decide) (by decide), oth1 1036 (by decide) (by decide) (by decide) (by decide), Nat.sub_self]
            exact ⟨rfl, rfl⟩)
        · have hO : O = 4 := (cmp_eq (b := 4) (by omega) (by decide)).mp z
          subst hO
          have loop : ∀ (n j : Nat) (m2 : ct_M), j + n = 3 → (∀ r, r ≠ 1035 → r ≠ 1036 → m2.1 r = m1.1 r) → (∀ i, m2.1 1035 i = if i < j then m.1 1035 (i + 1) else m.1 1035 i) → (∀ i, m2.1 1036 i = if i < j then m.1 1036 (i + 1) else m.1 1036 i) → wb_X12_observe_41 (Same K (nI (if 4 < 4 then 4 + 1 else 4))) (n + 1) 1023 (nI c) q (nI j) m2 := by
            intro n
            induction n with
            | zero =>
              intro j m2 hj f1 f2 f3
              have : j = 3 := by omega
              subst this
              unfold wb_X12_observe_41
              refine ⟨fun _ => ?_, fun e => absurd (by decide) e⟩
              intro m3 e3
              have b16 : m2.1 1023 16 = nI 4 := by rw [f1 _ (by decide) (by decide)]; exact e16
              rw [b16] at e3
              refine last 3 m3 (by omega) rfl (fun r r1 r2 r3 => by subst e3; rw [ct_st_ne r1]; exact f1 r r2 r3) (fun j hj => by subst e3; rw [ct_st_eq, upd_ne _ _ hj, f1 _ (by decide) (by decide)]) (by subst e3; rw [ct_st_eq, upd_same]; rfl) (fun i hi => ?_)
              have x5 : m3.1 1035 = m2.1 1035 := by subst e3; exact ct_st_ne (by decide)
              have x6 : m3.1 1036 = m2.1 1036 := by subst e3; exact ct_st_ne (by decide)
              rw [x5, x6, f2 i, f3 i, if_pos hi, if_pos hi]
              exact ⟨rfl, rfl⟩
            | succ n ih =>
              intro j m2 hj f1 f2 f3
              unfold wb_X12_observe_41
              simp (disch := omega) only [nI_ofNat, cmp_le, nI_add, vp_nI, cl, l35, l36]
              refine ⟨fun e => absurd e (by omega), fun _ => ⟨by omega, by omega, ?_⟩⟩
              intro m4 e4
              refine ⟨by omega, by omega, ?_⟩
              intro m5 e5 x hx
              rw [hx]
              have y5 : m5.1 1035 = upd (m2.1 1035) j (m2.1 1035 (j + 1)) := by subst e5 e4; rw [ct_st_ne (by decide), show 1023 + 12 = 1035 from rfl, ct_st_eq]
              have y6 : m5.1 1036 = upd (m2.1 1036) j (m2.1 1036 (j + 1)) := by subst e5 e4; rw [show 1023 + 13 = 1036 from rfl, ct_st_eq, show 1023 + 12 = 1035 from rfl, ct_st_ne (by decide)]
              refine ih (j + 1) m5 (by omega) (fun r r1 r2 => by subst e5 e4; rw [ct_st_ne r2, ct_st_ne r1]; exact f1 r r1 r2) (fun i => ?_) (fun i => ?_)
              · rw [y5]
                by_cases ei : i = j
                · subst ei; rw [upd_same, f2 (i + 1), if_neg (by omega), if_pos (by omega)]
                · rw [upd_ne _ _ ei, f2 i]
                  by_cases e2 : i < j
                  · rw [if_pos e2, if_pos (by omega)]
                  · rw [if_neg e2, if_neg (by omega)]
              · rw [y6]
                by_cases ei : i = j
                · subst ei; rw [upd_same, f3 (i + 1), if_neg (by omega), if_pos (by omega)]
                · rw [upd_ne _ _ ei, f3 i]
                  by_cases e2 : i < j
                  · rw [if_pos e2, if_pos (by omega)]
                  · rw [if_neg e2, if_neg (by omega)]
          refine ⟨4, loop 3 0 m1 rfl (fun _ _ _ => rfl) (fun i => ?_) (fun i => ?_)⟩
          · rw [oth1 1035 (by decide) (by decide) (by decide) (by decide), if_neg (by omega)]
          · rw [oth1 1036 (by decide) (by decide) (by decide) (by decide), if_neg (by omega)]
      refine ⟨fun e => fin 0 ?_, fun e => fin _ ?_⟩
      · rw [nI_ofNat 4, nI_ofNat 1, nI_add] at e
        have : P = 3 := by have := (cmp_le (by decide) (by omega)).mp e; omega
        subst this; rfl
      · rw [nI_ofNat 1, nI_add] at e ⊢
        have : ¬ 4 ≤ P + 1 := fun z => e ((cmp_le (a := 4) (by decide) (by omega)).mpr z)
        rw [Nat.mod_eq_of_lt (by omega)]
    · intro m1 g1
      subst g1
      refine r_noCell (fun c' hc' e' => ⟨fun _ => ?_, fun z => absurd rfl z⟩) (fun e => absurd rfl (e c hc))
      exact r_isV (fun z => absurd z hq) (fun _ => ⟨fun z => absurd rfl z, fun _ => Same.mk (hk _)⟩)
  · intro m1 g1
    subst g1
    exact r_noCell (fun c hc e' => absurd e' (e c hc)) (fun _ => ⟨fun z => absurd z (by decide), fun _ => Same.mk (hk _)⟩)
