theorem k_addInvariant {B : Nat} {K : ct_M → Prop} {X Y Z : Prop} {p q l : Int32} {m : ct_M} (h : INV B m) (hX : X) (hY : Y) (hZ : Z) (hK : ∀ m', INV (B + 400) m' → K m') : wp_X11_addInvariant 0 p q l (fun r m1 => X ∧ Y ∧ Z ∧ wp_X12_addInvariant 1023 p q l (Same K r) m1) m := by
  have hk : ∀ x, K (ct_st m 1023 0 x) := fun x => hK _ ((INV_0 h x).mono (by omega))
  obtain ⟨hok, hx, hob, G, T, N, D, hcore, hh, hsl⟩ := h
  obtain ⟨c1, c2, c3, c4, c5, c6, c7, c8⟩ := id hcore
  obtain ⟨H, P, ch, h13, hrf⟩ := IHist_C hh
  have tr8 := RWf_TR c5 c8
  obtain ⟨n, hn⟩ := RW_inv c7
  have hn4 := hn.2.1
  have e7 : m.1 26 7 = nI n := c7.2.2.1.1.trans hn.1
  have e12 : m.1 1030 12 = nI n := hn.1
  unfold wp_X11_addInvariant wp_X12_addInvariant
  refine c_isCell' (fun i hi e => ⟨fun z => absurd z (by decide), fun _ => ?_⟩) (fun e => ⟨fun _ => ⟨hX, hY, hZ, ?_⟩, fun z => absurd rfl z⟩)
  · subst e
    refine c_isCell' (fun j hj e => ⟨fun _ => ?_, fun z => absurd z (by decide)⟩) (fun e => ⟨fun z => absurd rfl z, fun _ => ⟨hX, hY, hZ, ?_⟩⟩)
    · subst e
      refine c_isV (fun hq => ⟨fun _ => ?_, fun z => absurd z (by decide)⟩) (fun hq => ⟨fun z => absurd rfl z, fun _ => ⟨hX, hY, hZ, ?_⟩⟩)
      · rw [show 0 + 26 = 26 from rfl, e7]
        refine ⟨fun e => ?_, fun e => ⟨hX, hY, hZ, ?_⟩⟩
        · have hn' : n < 4 := (cmp_lt (b := 4) (by omega) (by decide)).mp e
          refine c_remember c2 hok ch (fun i hi => RWf_TR c5 (hrf i hi)) tr8 c7 (fun m1 f1 o1 ok1 rw1 ⟨P', ch1⟩ => ?_)
          refine c_demand (b := 26) (G := G) (T := T) (v := m.1 1030) K_26 c2 rw1 tr8 hn hn' hi hj (fun m2 f2 rw2 s7 => ?_)
          have wf' : RWf G T N D B (rDemand (m.1 1030) n (nI i) (nI j) l) := RWf_demand c5 c8 hn hn' hi hj
          rw [s7]
          refine ⟨hX, hY, hZ, ?_⟩
          intro m3 g3
          have e3 : ∀ q, q ≠ 1023 → m3.1 q = m2.1 q := fun q hq => by rw [g3]; exact ct_st_ne hq
          have e33 : ∀ j, j ≠ 0 → m3.1 1023 j = m2.1 1023 j := fun j hj => by rw [g3, ct_st_eq, upd_ne _ _ hj]
          have up2 : ∀ q, 1023 ≤ q → m2.1 q = m.1 q := fun q hq => by rw [f2.2 _ (by omega), o1 _ (by omega)]
          have e30 : m3.1 1030 = m.1 1030 := by rw [e3 _ (by decide), up2 _ (by omega)]
          refine r_noCell (fun c' hc' e' => ⟨fun z => absurd rfl z, fun _ => ?_⟩) (fun e => absurd rfl (e i hi))
          refine r_noCell (fun c' hc' e' => ⟨fun _ => ?_, fun z => absurd rfl z⟩) (fun e => absurd rfl (e j hj))
          refine r_isV (fun _ => ⟨fun _ => ?_, fun z => absurd z (by decide)⟩) (fun z => absurd hq z)
          have c12 : (12 : Int32).toNatClampNeg = 12 := rfl
          have i12 : vp_in (12 : Int32) 172 := by rw [nI_ofNat 12, vp_nI (by decide)]; omega
          simp only [ln1030, c12]
          rw [show 1023 + 7 = 1030 from rfl, e30, e12]
          refine ⟨i12, fun _ => ?_, fun z => absurd ((cmp_eq (b := 4) (by omega) (by decide)).mp z) (by omega)⟩
          refine r_remember (H := H) ch.1 (by rw [e33 13 (by decide), up2 _ (by omega)]; exact h13) (fun m4 f4 o4 o44 l4 r4 => ⟨i12, ?_⟩)
          have e40 : m4.1 1030 = m.1 1030 := by rw [o4 _ (by decide) (by decide), ← e30]
          have up4 : ∀ q, 1023 < q → q ≠ 1032 → m4.1 q = m.1 q := fun q q1 q2 => by rw [o4 q (by omega) q2, e3 q (by omega), up2 q (by omega)]
          have s4 : ∀ j, j ≠ 0 → j ≠ 13 → m4.1 1023 j = m.1 1023 j := fun j j1 j2 => by rw [o44 j j2, e33 j j1, up2 _ (by omega)]
          rw [e40, e12]
          intro x14 h14
          have ex : x14 = nI (13 + 3 * n) := by rw [h14, nI_ofNat 13, nI_ofNat 3, pk_mul, nI_add]
          rw [ex]
          simp (disch := omega) only [vp_nI, cl, nI_ofNat, nI_add]
          refine ⟨by omega, ?_⟩
          intro m15 g15
          refine ⟨by omega, ?_⟩
          intro m16 g16
          refine ⟨by omega, ?_⟩
          intro m17 g17
          refine ⟨by omega, by omega, ?_⟩
          intro m18 g18
          have e17 : m17.1 1030 = upd (upd (upd (m.1 1030) (13 + 3 * n) (nI i)) (13 + 3 * n + 1) (nI j)) (13 + 3 * n + 2) l := by
            subst g17 g16 g15; rw [ct_st_eq, ct_st_eq, ct_st_eq, e40]
          have e1712 : m17.1 1030 12 = nI n := by rw [e17, upd_ne _ _ (by omega), upd_ne _ _ (by omega), upd_ne _ _ (by omega)]; exact e12
          rw [e1712, nI_add] at g18
          have e18 : m18.1 1030 = rDemand (m.1 1030) n (nI i) (nI j) l := by subst g18; rw [ct_st_eq, e17]; rfl
          have oM : ∀ q, q ≠ 1030 → m18.1 q = m4.1 q := fun q q1 => by subst g18 g17 g16 g15; rw [ct_st_ne q1, ct_st_ne q1, ct_st_ne q1, ct_st_ne q1]
          refine ⟨by omega, ?_⟩
          rw [show m18.1 1030 12 = nI (n + 1) by rw [e18]; exact upd_same _ _ _]
          refine Same.mk (hK _ (INV.mono (B := B) ?_ (by omega)))
          refine op_finish (m1 := m1) (m2 := m2) (H := H) (P' := P') (v' := rDemand (m.1 1030) n (nI i) (nI j) l) (by omega) hx hob hcore hsl ch.1 hrf o1 ch1 (fun q hq => f2.2 q (by omega)) (ok1.keep K_26 f2) rw2 wf' (fun q hq => ?_) e18 (fun j hj => ?_) ?_ (fun q hq => ?_) (fun i hi k hk => ?_)
          · rw [oM q (by omega), o4 q (by omega) (by omega), e3 q (by omega)]
          · rw [oM _ (by decide)]; exact s4 j (by omega) (by omega)
          · rw [oM _ (by decide)]; exact l4
          · rw [oM _ (by omega)]; exact up4 q (by omega) (by omega)
          · have e1 : hrow m18 i k = hrow m4 i k := by unfold hrow; rw [oM _ (by decide)]
            have e2 : hrow m3 = hrow m := by unfold hrow; rw [e3 1032 (by decide), up2 1032 (by omega)]
            rw [e1, r4 i hi k hk, e2, show m3.1 1030 = m.1 1030 from e30]
        · have hn' : n = 4 := by
            have : ¬ n < 4 := fun z => e ((cmp_lt (b := 4) (by omega) (by decide)).mpr z)
            omega
          intro m1 g1
          subst g1
          refine r_noCell (fun c' hc' e' => ⟨fun z => absurd rfl z, fun _ => ?_⟩) (fun e => absurd rfl (e i hi))
          refine r_noCell (fun c' hc' e' => ⟨fun _ => ?_, fun z => absurd rfl z⟩) (fun e => absurd rfl (e j hj))
          refine r_isV (fun _ => ⟨fun _ => ?_, fun z => absurd z (by decide)⟩) (fun z => absurd hq z)
          rw [ct_st_ne (by decide), show m.1 (1023 + 7) (12 : Int32).toNatClampNeg = nI n from e12]
          subst hn'
          exact ⟨by rw [ln1030, nI_ofNat 12, vp_nI (by decide)]; omega, fun z => absurd rfl z, fun _ => Same.mk (hk _)⟩
      · intro m1 g1
        subst g1
        refine r_noCell (fun c' hc' e' => ⟨fun z => absurd rfl z, fun _ => ?_⟩) (fun e => absurd rfl (e i hi))
        refine r_noCell (fun c' hc' e' => ⟨fun _ => ?_, fun z => absurd rfl z⟩) (fun e => absurd rfl (e j hj))
        exact r_isV (fun z => absurd z hq) (fun _ => ⟨fun z => absurd rfl z, fun _ => Same.mk (hk _)⟩)
    · intro m1 g1
      subst g1
      refine r_noCell (fun c' hc' e' => ⟨fun z => absurd rfl z, fun _ => ?_⟩) (fun e => absurd rfl (e i hi))
      exact r_noCell (fun c hc e' => absurd e' (e c hc)) (fun _ => ⟨fun z => absurd z (by decide), fun _ => Same.mk (hk _)⟩)
  · intro m1 g1
    subst g1
    exact r_noCell (fun c hc e' => absurd e' (e c hc)) (fun _ => ⟨fun _ => Same.mk (hk _), fun z => absurd z (by decide)⟩)
