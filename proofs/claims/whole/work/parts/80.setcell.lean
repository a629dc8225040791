/-! setCell, addInvariant -/
theorem RWf_val {G : Prg} {T B c : Nat} {N : Nat → Nat} {D : Nat → Nat → Nat} {v : Row} {x : Int32} (hs : PSs G T N D) (h : RWf G T N D B v) (hc : c < 6) (hx : V x) : RWf G T N D B (upd v c x) := by
  obtain ⟨h1, h2, ⟨n, h3⟩, h4, h5⟩ := h
  refine ⟨fun d hd => ?_, fun d hd => by rw [upd_ne _ _ (by omega)]; exact h2 d hd, ⟨n, rInvs_move h3 fun i i1 i2 => upd_ne _ _ (by omega)⟩, fun t ht => TW_move (hs t ht) (h4 t ht) fun j hj => upd_ne _ _ (by unfold rAt; omega), fun u u1 u2 => (upd_ne _ _ (by unfold rAt; omega)).trans (h5 u u1 u2)⟩
  by_cases e : d = c
  · subst e; rw [upd_same]; exact hx
  · rw [upd_ne _ _ e]; exact h1 d hd
theorem k_setCell {B : Nat} {K : ct_M → Prop} {X Y : Prop} {p q : Int32} {m : ct_M} (h : INV B m) (hX : X) (hY : Y) (hK : ∀ m', INV (B + 400) m' → K m') : wp_X11_setCell 0 p q (fun r m1 => X ∧ Y ∧ wp_X12_setCell 1023 p q (Same K r) m1) m := by
  have hk : ∀ x, K (ct_st m 1023 0 x) := fun x => hK _ ((INV_0 h x).mono (by omega))
  obtain ⟨hok, hx, hob, G, T, N, D, hcore, hh, hsl⟩ := h
  obtain ⟨c1, c2, c3, c4, c5, c6, c7, c8⟩ := id hcore
  obtain ⟨H, P, ch, h13, hrf⟩ := IHist_C hh
  have tr8 := RWf_TR c5 c8
  have l2 : ct_ln (0 + 26 + 2) = 6 := by decide +kernel
  unfold wp_X11_setCell wp_X12_setCell
  refine c_isCell' (fun c hc e => ⟨fun _ => ?_, fun z => absurd z (by decide)⟩) (fun e => ⟨fun z => absurd rfl z, fun _ => ⟨hX, hY, ?_⟩⟩)
  · subst e
    refine c_isV (fun hq => ⟨fun _ => ?_, fun z => absurd z (by decide)⟩) (fun hq => ⟨fun z => absurd rfl z, fun _ => ⟨hX, hY, ?_⟩⟩)
    · refine c_remember c2 hok ch (fun i hi => RWf_TR c5 (hrf i hi)) tr8 c7 (fun m1 f1 o1 ok1 rw1 ⟨P', ch1⟩ => ?_)
      refine c_store (b := 26) (G := G) (T := T) (v := m.1 1030) K_26 c2 hc rw1 tr8 (fun m2 f2 rw2 => ?_)
      have wf' : RWf G T N D (B + 1) (rGrow (upd (m.1 1030) c q) c T) := RWf_grow c5 hc (RWf_val c5 c8 hc hq)
      generalize hv' : rGrow (upd (m.1 1030) c q) c T = v' at *
      simp (disch := omega) only [vp_nI, cl, l2]
      refine ⟨hc, hX, hY, ?_⟩
      rw [show 0 + 26 + 2 = 26 + 2 from rfl, rw2.1.2 c hc]
      intro m3 g3
      have e3 : ∀ q, q ≠ 1023 → m3.1 q = m2.1 q := fun q hq => by rw [g3]; exact ct_st_ne hq
      have e33 : ∀ j, j ≠ 0 → m3.1 1023 j = m2.1 1023 j := fun j hj => by rw [g3, ct_st_eq, upd_ne _ _ hj]
      have up2 : ∀ q, 1023 ≤ q → m2.1 q = m.1 q := fun q hq => by rw [f2.2 _ (by omega), o1 _ (by omega)]
      have e30 : m3.1 1030 = m.1 1030 := by rw [e3 _ (by decide), up2 _ (by omega)]
      refine r_noCell (fun c' hc' e' => ⟨fun _ => ?_, fun z => absurd rfl z⟩) (fun e => absurd rfl (e c hc))
      refine r_isV (fun _ => ⟨fun _ => ?_, fun z => absurd z (by decide)⟩) (fun z => absurd hq z)
      refine r_remember (H := H) ch.1 (by rw [e33 13 (by decide), up2 _ (by omega)]; exact h13) (fun m4 f4 o4 o44 l4 r4 => ?_)
      have e40 : m4.1 1030 = m.1 1030 := by rw [o4 _ (by decide) (by decide), ← e30]
      have up4 : ∀ q, 1023 < q → q ≠ 1032 → m4.1 q = m.1 q := fun q q1 q2 => by rw [o4 q (by omega) q2, e3 q (by omega), up2 q (by omega)]
      have s4 : ∀ j, j ≠ 0 → j ≠ 13 → m4.1 1023 j = m.1 1023 j := fun j j1 j2 => by rw [o44 j j2, e33 j j1, up2 _ (by omega)]
      simp (disch := omega) only [vp_nI, cl, ln1030, fa_eq, nI_ofNat, nI_add, show 1023 + 7 = 1030 from rfl, show ct_ln 1030 = 172 from ln1030]
      refine ⟨by omega, ?_⟩
      refine r_grow (A := 1030) (O := 1023) ln1030 (by decide) c2 (by rw [ct_st_ne (by decide), s4 4 (by decide) (by decide)]; exact c4) hc ?_
      refine ⟨by omega, ?_⟩
      rw [ct_st_eq, e40, hv', pr_at]
      refine Same.mk (hK _ (INV.mono (B := B + 1) ?_ (by omega)))
      generalize hM : pr (ct_st m4 1030 c q) 1030 v' = M
      have oM : ∀ q, q ≠ 1030 → M.1 q = m4.1 q := fun q q1 => by rw [← hM, pr_ne _ _ q1, ct_st_ne q1]
      refine op_finish (m1 := m1) (m2 := m2) (H := H) (P' := P') (v' := v') (by omega) hx hob hcore hsl ch.1 hrf o1 ch1 (fun q hq => f2.2 q (by omega)) (ok1.keep K_26 f2) rw2 wf' (fun q hq => ?_) (by rw [← hM, pr_at]) (fun j hj => ?_) ?_ (fun q hq => ?_) (fun i hi k hk => ?_)
      · rw [oM q (by omega), o4 q (by omega) (by omega), e3 q (by omega)]
      · rw [oM _ (by decide)]; exact s4 j (by omega) (by omega)
      · rw [oM _ (by decide)]; exact l4
      · rw [oM _ (by omega)]; exact up4 q (by omega) (by omega)
      · have e1 : hrow M i k = hrow m4 i k := by unfold hrow; rw [oM _ (by decide)]
        have e2 : hrow m3 = hrow m := by unfold hrow; rw [e3 1032 (by decide), up2 1032 (by omega)]
        rw [e1, r4 i hi k hk, e2, show m3.1 1030 = m.1 1030 from e30]
    · intro m1 g1
      subst g1
      refine r_noCell (fun c' hc' e' => ⟨fun _ => ?_, fun z => absurd rfl z⟩) (fun e => absurd rfl (e c hc))
      exact r_isV (fun z => absurd z hq) (fun _ => ⟨fun z => absurd rfl z, fun _ => Same.mk (hk _)⟩)
  · intro m1 g1
    subst g1
    exact r_noCell (fun c hc e' => absurd e' (e c hc)) (fun _ => ⟨fun z => absurd z (by decide), fun _ => Same.mk (hk _)⟩)
def rDemand (v : Row) (n : Nat) (i j l : Int32) : Row := upd (upd (upd (upd v (13 + 3 * n) i) (13 + 3 * n + 1) j) (13 + 3 * n + 2) l) 12 (nI (n + 1))
theorem rDemand_out {v : Row} {n i : Nat} {a b l : Int32} (hn : n < 4) (h : i < 12 ∨ 25 ≤ i) : rDemand v n a b l i = v i := by
  unfold rDemand
  rw [upd_ne _ _ (by omega), upd_ne _ _ (by omega), upd_ne _ _ (by omega), upd_ne _ _ (by omega)]
theorem rDemand_invs {v : Row} {n i j : Nat} {l : Int32} (h : rInvs v n) (hn : n < 4) (hi : i < 6) (hj : j < 6) : rInvs (rDemand v n (nI i) (nI j) l) (n + 1) := by
  obtain ⟨h1, h2, h3⟩ := h
  refine ⟨upd_same _ _ _, by omega, fun k hk => ?_⟩
  unfold rDemand
  by_cases e : k = n
  · subst e
    refine ⟨i, j, hi, hj, ?_, ?_⟩
    · rw [upd_ne _ _ (by omega), upd_ne _ _ (by omega), upd_ne _ _ (by omega), upd_same]
    · rw [upd_ne _ _ (by omega), upd_ne _ _ (by omega), upd_same]
  · obtain ⟨a, b, ha, hb, e1, e2⟩ := h3 k (by omega)
    refine ⟨a, b, ha, hb, ?_, ?_⟩
    · rw [upd_ne _ _ (by omega), upd_ne _ _ (by omega), upd_ne _ _ (by omega), upd_ne _ _ (by omega)]; exact e1
    · rw [upd_ne _ _ (by omega), upd_ne _ _ (by omega), upd_ne _ _ (by omega), upd_ne _ _ (by omega)]; exact e2
theorem RWf_demand {G : Prg} {T B n i j : Nat} {N : Nat → Nat} {D : Nat → Nat → Nat} {v : Row} {l : Int32} (hs : PSs G T N D) (h : RWf G T N D B v) (hi3 : rInvs v n) (hn : n < 4) (hi : i < 6) (hj : j < 6) : RWf G T N D B (rDemand v n (nI i) (nI j) l) := by
  obtain ⟨h1, h2, -, h4, h5⟩ := h
  refine ⟨fun d hd => by rw [rDemand_out hn (by omega)]; exact h1 d hd, fun d hd => by rw [rDemand_out hn (by omega)]; exact h2 d hd, ⟨n + 1, rDemand_invs hi3 hn hi hj⟩, fun t ht => TW_move (hs t ht) (h4 t ht) fun j hj => rDemand_out hn (by unfold rAt; omega), fun u u1 u2 => (rDemand_out hn (by unfold rAt; omega)).trans (h5 u u1 u2)⟩
theorem c_demand {G : Prg} {T b n i j : Nat} {v : Row} {l : Int32} {Q : ct_M → Prop} {m : ct_M} (hb : ct_K 10 b) (hT : T ≤ 3) (hw : RW G m b v T) (hr : ∀ t, t < T → TR v t) (hi3 : rInvs v n) (hn : n < 4) (hi : i < 6) (hj : j < 6)
    (h : ∀ m', Fr m m' b (b + 52) → RW G m' b (rDemand v n (nI i) (nI j) l) T → m'.1 b 7 = nI (n + 1) → Q m') : wp_X10_demand b (nI i) (nI j) l Q m := by
  obtain ⟨l1, l2, l3, l4, l5, l6⟩ := w_len hb
  obtain ⟨⟨w1, w2⟩, w3, ⟨w4, n', w5, w6⟩, w7⟩ := hw
  have e7 : m.1 b 7 = nI n := w4.trans hi3.1
  have enn : n' = n := by
    have := w5.1.symm.trans hi3.1
    exact (cmp_eq (by have := w5.2.1; omega) (by omega)).mp this
  subst enn
  unfold wp_X10_demand
  rw [e7]
  simp (disch := omega) only [nI_ofNat 4, cmp_le, vp_nI, cl, l4]
  refine ⟨fun e => absurd e (nI_pos (by omega)), fun _ => ⟨fun e => absurd e (by omega), fun _ => ⟨by omega, ?_⟩⟩⟩
  intro m4 g4
  have q4 : m4.1 b 7 = nI n' := by subst g4; rw [ct_st_ne (by omega)]; exact e7
  rw [q4]
  simp (disch := omega) only [vp_nI, cl, l5]
  refine ⟨by omega, ?_⟩
  intro m6 g6
  have q6 : m6.1 b 7 = nI n' := by subst g6; rw [ct_st_ne (by omega)]; exact q4
  rw [q6]
  simp (disch := omega) only [vp_nI, cl, l6]
  refine ⟨by omega, ?_⟩
  intro m8 g8 m9 g9
  have q8 : m8.1 b 7 = nI n' := by subst g8; rw [ct_st_ne (by omega)]; exact q6
  rw [q8, nI_ofNat 1, nI_add] at g9
  have oth : ∀ q, q ≠ b → q ≠ b + 4 → q ≠ b + 5 → q ≠ b + 6 → m9.1 q = m.1 q := fun q a1 a2 a3 a4 => by
    subst g9 g8 g6 g4; rw [ct_st_ne a1, ct_st_ne a4, ct_st_ne a3, ct_st_ne a2]
  have s7 : m9.1 b 7 = nI (n' + 1) := by subst g9; rw [ct_st_eq, upd_same]
  have s3 : m9.1 b 3 = m.1 b 3 := by subst g9 g8 g6 g4; rw [ct_st_eq, upd_ne _ _ (by decide), ct_st_ne (by omega), ct_st_ne (by omega), ct_st_ne (by omega)]
  have a4 : m9.1 (b + 4) = upd (m.1 (b + 4)) n' (nI i) := by subst g9 g8 g6 g4; rw [ct_st_ne (by omega), ct_st_ne (by omega), ct_st_ne (by omega), ct_st_eq]
  have a5 : m9.1 (b + 5) = upd (m.1 (b + 5)) n' (nI j) := by subst g9 g8 g6 g4; rw [ct_st_ne (by omega), ct_st_ne (by omega), ct_st_eq, ct_st_ne (by omega)]
  have a6 : m9.1 (b + 6) = upd (m.1 (b + 6)) n' l := by subst g9 g8 g6 g4; rw [ct_st_ne (by omega), ct_st_eq, ct_st_ne (by omega), ct_st_ne (by omega)]
  have fr : Fr m m9 b (b + 52) := by
    subst g9 g8 g6 g4
    exact (((Fr.st (by omega) (by omega)).tr (Fr.st (by omega) (by omega))).tr (Fr.st (by omega) (by omega))).tr (Fr.st (by omega) (by omega))
  have ro : ∀ q, q < 12 ∨ 25 ≤ q → rDemand v n' (nI i) (nI j) l q = v q := fun q hq => rDemand_out hn hq
  refine h m9 fr ⟨⟨fun c hc => ?_, fun c hc => ?_⟩, s3.trans w3, ⟨?_, n' + 1, rDemand_invs hi3 hn hi hj, fun k hk => ?_⟩, fun t ht => ?_⟩ s7
  · rw [oth _ (by omega) (by omega) (by omega) (by omega), ro _ (by omega)]; exact w1 c hc
  · rw [oth _ (by omega) (by omega) (by omega) (by omega), ro _ (by omega)]; exact w2 c hc
  · rw [s7]; exact (upd_same _ _ _).symm
  · rw [a4, a5, a6]
    unfold rDemand
    by_cases e : k = n'
    · subst e
      rw [upd_same, upd_same, upd_same]
      refine ⟨?_, ?_, ?_⟩
      · rw [upd_ne _ _ (by omega), upd_ne _ _ (by omega), upd_ne _ _ (by omega), upd_same]
      · rw [upd_ne _ _ (by omega), upd_ne _ _ (by omega), upd_same]
      · rw [upd_ne _ _ (by omega), upd_same]
    · obtain ⟨b1, b2, b3⟩ := w6 k (by omega)
      rw [upd_ne _ _ e, upd_ne _ _ e, upd_ne _ _ e]
      refine ⟨?_, ?_, ?_⟩
      · rw [upd_ne _ _ (by omega), upd_ne _ _ (by omega), upd_ne _ _ (by omega), upd_ne _ _ (by omega)]; exact b1
      · rw [upd_ne _ _ (by omega), upd_ne _ _ (by omega), upd_ne _ _ (by omega), upd_ne _ _ (by omega)]; exact b2
      · rw [upd_ne _ _ (by omega), upd_ne _ _ (by omega), upd_ne _ _ (by omega), upd_ne _ _ (by omega)]; exact b3
  · exact (w7 t ht).move (fun q q1 q2 => oth q (by omega) (by omega) (by omega) (by omega)) (fun i i1 i2 => ro i (by unfold rAt at i1; omega)) (hr t ht).2
