/-! step and run -/
/-- a new state behind a call: what is to be shown -/
theorem INV_new {B B' : Nat} {G : Prg} {T : Nat} {N : Nat → Nat} {D : Nat → Nat → Nat} {m m' : ct_M} (hB : B ≤ B') (hx : IText m) (hob : IObs m) (hc : ICore G T N D B m) (hsl : ISlot G T N D B m)
    (h1 : ∀ q, (q < 26 ∨ (808 ≤ q ∧ q < 912)) → m'.1 q = m.1 q) (h2 : ∀ j, (j = 2 ∨ j = 4 ∨ j = 16) → m'.1 1023 j = m.1 1023 j) (h3 : ∀ q, ((1024 ≤ q ∧ q ≤ 1029) ∨ (1033 ≤ q ∧ q ≤ 1036)) → m'.1 q = m.1 q)
    (ho : OkAll m') (hw : RW G m' 26 (m'.1 1030) T) (hf : RWf G T N D B' (m'.1 1030)) (hh : IHist G T N D B' m') : INV B' m' := by
  obtain ⟨L, t1, t2, t3, t4⟩ := hx
  obtain ⟨O, P, o1, o2, o3, o4, o5, o6⟩ := hob
  obtain ⟨c1, c2, c3, c4, c5, c6, -, -⟩ := hc
  refine ⟨ho, ⟨L, t1, ?_, ?_, fun k hk => ?_⟩, ⟨O, P, o1, o2, ?_, ?_, ?_, fun i hi => ?_⟩, G, T, N, D, ⟨c1, c2, fun k k1 k2 => by rw [h3 k (by omega)]; exact c3 k k1 k2, by rw [h2 4 (by omega)]; exact c4, c5, fun s hs => ?_, hw, hf⟩, hh, fun s hs => ?_⟩
  · rw [h1 _ (by omega)]; exact t2
  · rw [h2 2 (by omega)]; exact t3
  · rw [h1 _ (by omega), h3 _ (by omega)]; exact t4 k hk
  · rw [h1 _ (by omega)]; exact o3
  · rw [h1 _ (by omega)]; exact o4
  · rw [h2 16 (by omega)]; exact o5
  · rw [h1 9 (by omega), h1 10 (by omega), h3 1035 (by omega), h3 1036 (by omega)]; exact o6 i hi
  · obtain ⟨g1, g2⟩ := c6 s hs
    refine ⟨by rw [h1 _ (by omega)]; exact g1, fun k hk => ?_⟩
    rw [h1 (11 + 5 * s + 1) (by omega), h1 (11 + 5 * s + 2) (by omega), h1 (11 + 5 * s + 3) (by omega)]
    exact g2 k hk
  · have e : srow m' s = srow m s := by unfold srow; rw [h3 1033 (by omega)]
    rw [e, h1 7 (by omega), h3 1034 (by omega)]
    rcases hsl s hs with z | ⟨z1, z2, z3, z4⟩
    · exact Or.inl z
    · exact Or.inr ⟨z1, z2, RW_mem z3 c2 (RWf_TR c5 z4) (fun q q1 q2 => h1 q (by omega)), z4.mono hB⟩
/-- the rows that the reference remembers -/
theorem IHist_next {B B' : Nat} {G : Prg} {T H P' : Nat} {N : Nat → Nat} {D : Nat → Nat → Nat} {v : Row} {hs : Nat → Row} {m' : ct_M} (hT : T ≤ 3) (hps : PSs G T N D) (hB : B ≤ B') (hH : H ≤ 14) (hv : RWf G T N D B v) (hr : ∀ i, i < H → RWf G T N D B (hs i)) (hc : CHist G T m' (hLen H) P' (hNext H hs v)) (h13 : m'.1 1023 13 = nI (hLen H)) (he : ∀ i, i < hLen H → ∀ k, k < 172 → hrow m' i k = hNext H hs v i k) : IHist G T N D B' m' := by
  obtain ⟨h1, h2, h3, h4, h5⟩ := hc
  refine ⟨hLen H, P', h1, h2, h3, h4, h13, fun i hi => ?_⟩
  have hf : RWf G T N D B (hNext H hs v i) := by
    unfold hLen at hi
    unfold hNext
    by_cases z : H < 14
    · rw [if_pos z] at hi ⊢
      by_cases e : i = H
      · rw [if_pos e]; exact hv
      · rw [if_neg e]; exact hr i (by omega)
    · rw [if_neg z] at hi ⊢
      by_cases e : i = 13
      · rw [if_pos e]; exact hv
      · rw [if_neg e]; exact hr (i + 1) (by omega)
  exact ⟨RW_row (h5 i hi) hT (RWf_TR hps hf) (he i hi), RWf_row hps hT (hf.mono hB) (he i hi)⟩
theorem IHist_C {G : Prg} {T B : Nat} {N : Nat → Nat} {D : Nat → Nat → Nat} {m : ct_M} (h : IHist G T N D B m) : ∃ H P, CHist G T m H P (hrow m) ∧ m.1 1023 13 = nI H ∧ ∀ i, i < H → RWf G T N D B (hrow m i) := by
  obtain ⟨H, P, g1, g2, g3, g4, g5, g6⟩ := h
  exact ⟨H, P, ⟨g1, g2, g3, g4, fun i hi => (g6 i hi).1⟩, g5, fun i hi => (g6 i hi).2⟩
theorem hNext_TR {G : Prg} {T B H : Nat} {N : Nat → Nat} {D : Nat → Nat → Nat} {v : Row} {hs : Nat → Row} (hps : PSs G T N D) (hH : H ≤ 14) (hv : RWf G T N D B v) (hr : ∀ i, i < H → RWf G T N D B (hs i)) : ∀ i, i < hLen H → ∀ t, t < T → TR (hNext H hs v i) t := by
  intro i hi
  refine RWf_TR (B := B) (N := N) (D := D) hps ?_
  unfold hLen at hi
  unfold hNext
  by_cases z : H < 14
  · rw [if_pos z] at hi ⊢
    by_cases e : i = H
    · rw [if_pos e]; exact hv
    · rw [if_neg e]; exact hr i (by omega)
  · rw [if_neg z] at hi ⊢
    by_cases e : i = 13
    · rw [if_pos e]; exact hv
    · rw [if_neg e]; exact hr (i + 1) (by omega)
theorem k_step {B : Nat} {K : ct_M → Prop} {X : Prop} {p : Int32} {m : ct_M} (h : INV B m) (hB : B < 2 ^ 28) (hX : X) (hK : ∀ m', INV (B + 400) m' → K m') : wp_X11_step 0 p (fun r m1 => X ∧ wp_X12_step 1023 p (Same K r) m1) m := by
  have hk : ∀ x, K (ct_st m 1023 0 x) := fun x => hK _ ((INV_0 h x).mono (by omega))
  obtain ⟨hok, hx, hob, G, T, N, D, hcore, hh, hsl⟩ := h
  obtain ⟨c1, c2, c3, c4, c5, c6, c7, c8⟩ := id hcore
  obtain ⟨H, P, ch, h13, hrf⟩ := IHist_C hh
  have c4' : (ct_st m 1023 0 (0 : Int32)).1 1023 4 = nI T := by rw [ct_st_eq, upd_ne _ _ (by decide)]; exact c4
  have tr8 := RWf_TR c5 c8
  unfold wp_X11_step wp_X12_step
  refine c_hasThread c2 c7.2.1 (fun t ht e => ⟨fun _ => ?_, fun z => absurd z (by decide)⟩) (fun e => ⟨fun z => absurd rfl z, fun _ => ⟨hX, ?_⟩⟩)
  · subst e
    have hr : rAt t = 25 + 49 * t := rfl
    have e0 : m.1 (26 + 7 + 15 * t) 1 = m.1 1030 (rAt t) := (c7.2.2.2 t ht).1.1
    simp (disch := omega) only [vp_nI, cl, ln29]
    rw [show 0 + 26 + 3 + 4 + 15 * t = 26 + 7 + 15 * t by omega, e0]
    refine ⟨by omega, fun z => ?_, fun z => ⟨hX, ?_⟩⟩
    · refine c_remember c2 hok ch (fun i hi => RWf_TR c5 (hrf i hi)) tr8 c7 (fun m1 f1 o1 ok1 rw1 ⟨P', ch1⟩ => ⟨by omega, ?_⟩)
      have pg1 : ∀ s, s < T → PG G m1 (11 + 5 * s) s (N s) := fun s hs => by
        obtain ⟨g1, g2⟩ := c6 s hs
        refine ⟨by rw [o1 _ (by omega)]; exact g1, fun k hk => ?_⟩
        rw [o1 (11 + 5 * s + 1) (by omega), o1 (11 + 5 * s + 2) (by omega), o1 (11 + 5 * s + 3) (by omega)]
        exact g2 k hk
      refine c_advance (b := 26) (ww := m.1 1023 29) K_26 (by omega) c2 ht c5 pg1 rw1 c8 (by omega) z (fun m2 f2 rw2 => ⟨hX, ?_⟩)
      intro m3 g3
      have e3 : ∀ q, q ≠ 1023 → m3.1 q = m2.1 q := fun q hq => by rw [g3]; exact ct_st_ne hq
      have e33 : ∀ j, j ≠ 0 → m3.1 1023 j = m2.1 1023 j := fun j hj => by rw [g3, ct_st_eq, upd_ne _ _ hj]
      have up2 : ∀ q, 1023 ≤ q → m2.1 q = m.1 q := fun q hq => by rw [f2.2 _ (by omega), o1 _ (by omega)]
      refine r_noThread c2 c1 (by rw [e33 4 (by decide), up2 _ (by omega)]; exact c4) (fun t' ht' e' => ⟨fun _ => r_at' ?_, fun z => absurd rfl z⟩) (fun e => absurd rfl (e t ht))
      simp (disch := omega) only [vp_nI, cl, ln1030, nI_ofNat, nI_add]
      have e30 : m3.1 (1023 + 7) = m.1 1030 := by rw [e3 _ (by decide), up2 _ (by omega)]
      refine ⟨by omega, fun _ => ?_, fun z2 => ?_⟩
      · refine r_remember (H := H) ch.1 (by rw [e33 13 (by decide), up2 _ (by omega)]; exact h13) (fun m4 f4 o4 o44 l4 r4 => ?_)
        have e40 : m4.1 1030 = m.1 1030 := by rw [o4 _ (by decide) (by decide), ← e30]
        have up4 : ∀ q, 1023 < q → q ≠ 1032 → m4.1 q = m.1 q := fun q q1 q2 => by rw [o4 q (by omega) q2, e3 q (by omega), up2 q (by omega)]
        have s4 : ∀ j, j ≠ 0 → j ≠ 13 → m4.1 1023 j = m.1 1023 j := fun j j1 j2 => by rw [o44 j j2, e33 j j1, up2 _ (by omega)]
        refine r_step (A := 1030) (G := G) (T := T) (B := B) (N := N) (D := D) (by decide) (by decide) (fun k k1 k2 => by rw [up4 k (by omega) (by omega)]; exact c3 k k1 k2) c2 (by rw [s4 4 (by decide) (by decide)]; exact c4) c5 ht (by rw [e40]; exact c8) (by omega) (by rw [e40]; exact z) ?_
        rw [e40, s4 29 (by decide) (by decide)]
        refine Same.mk (hK _ (INV.mono (B := B + 6) ?_ (by omega)))
        generalize hv' : (fStep G T (m.1 1030) t (m.1 1023 29)).2.1 = v' at *
        have wf' : RWf G T N D (B + 6) v' := by rw [← hv']; exact step_wf c5 ht c8 (by omega) z
        generalize hM : pr (ct_st m4 1023 29 (fStep G T (m.1 1030) t (m.1 1023 29)).2.2) 1030 v' = M
        have oM : ∀ q, q ≠ 1030 → q ≠ 1023 → M.1 q = m4.1 q := fun q q1 q2 => by rw [← hM, pr_ne _ _ q1, ct_st_ne q2]
        have sM : ∀ j, j ≠ 29 → M.1 1023 j = m4.1 1023 j := fun j hj => by rw [← hM, pr_ne _ _ (by decide), ct_st_eq, upd_ne _ _ hj]
        have e30M : M.1 1030 = v' := by rw [← hM, pr_at]
        have lowM : ∀ q, q < 1023 → M.1 q = m2.1 q := fun q hq => by rw [oM q (by omega) (by omega), o4 q (by omega) (by omega), e3 q (by omega)]
        refine INV_new (B := B) (by omega) hx hob hcore hsl (fun q hq => ?_) (fun j hj => ?_) (fun q hq => ?_) ?_ ?_ (by rw [e30M]; exact wf') ?_
        · rw [lowM q (by omega), f2.2 q (by omega), o1 q (by omega)]
        · rw [sM j (by omega), s4 j (by omega) (by omega)]
        · rw [oM q (by omega) (by omega), up4 q (by omega) (by omega)]
        · exact (ok1.keep K_26 f2).same fun q hq => by
            have : q < 1023 := Nat.lt_of_not_le fun z => by
              have h1 := ct_all (fun a => !(ct_kd a == 4) || decide (a < 1023)) (by decide +kernel) (a := q) (by
                refine Nat.lt_of_not_le fun z2 => ?_
                have : ct_kd q = 99 := by
                  unfold ct_kd ct_pick
                  rw [if_neg (by omega), if_neg (by omega), if_neg (by omega), if_neg (by omega), if_neg (by omega), if_neg (by omega)]
                  rw [List.getD_eq_getElem?_getD, List.getElem?_eq_none (by simp; unfold ct_NN at z2; omega)]; rfl
                rw [this] at hq
                exact absurd hq (by decide))
              simp only [hq, beq_self_eq_true, Bool.not_true, Bool.false_or, decide_eq_true_eq] at h1
              omega
            exact lowM q this
        · rw [e30M]
          exact RW_mem rw2 c2 (RWf_TR c5 wf') fun q q1 q2 => lowM q (by omega)
        · refine IHist_next (P' := P') (v := m.1 1030) (hs := hrow m) c2 c5 (by omega) ch.1 c8 hrf ?_ ?_ (fun i hi k hk => ?_)
          · exact CHist_mem ch1 c2 (hNext_TR c5 ch.1 c8 hrf) fun q q1 q2 => by rw [lowM q (by omega), f2.2 q (by omega)]
          · rw [sM 13 (by decide)]; exact l4
          · have e1 : hrow M i k = hrow m4 i k := by unfold hrow; rw [oM 1032 (by decide) (by decide)]
            have e2 : hrow m3 = hrow m := by unfold hrow; rw [e3 1032 (by decide), up2 1032 (by omega)]
            rw [e1, r4 i hi k hk, e2, show m3.1 1030 = m.1 1030 from e30]
      · exfalso
        rw [e30] at z2
        exact z2 z
    · intro m1 g1
      subst g1
      refine r_noThread c2 c1 c4' (fun t' ht' e' => ⟨fun _ => r_at' ?_, fun z => absurd rfl z⟩) (fun e => absurd rfl (e t ht))
      simp (disch := omega) only [vp_nI, cl, ln1030, nI_ofNat, nI_add]
      rw [ct_st_ne (by decide)]
      exact ⟨by omega, fun z2 => absurd z2 z, fun _ => Same.mk (hk _)⟩
  · intro m1 g1
    subst g1
    exact r_noThread c2 c1 c4' (fun t ht e' => absurd e' (e t ht)) (fun _ => ⟨fun z => absurd z (by decide), fun _ => Same.mk (hk _)⟩)
