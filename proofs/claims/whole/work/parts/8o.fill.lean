/-! the class reads a program -/
theorem p_len4 {t : Nat} (ht : t < 3) : ct_ln (11 + 5 * t + 4) = 3 := (by decide +kernel : ∀ t, t < 3 → ct_ln (11 + 5 * t + 4) = 3) t ht
theorem nar_char {c : Nat} (h : c < 256) : vp_nar .char (nI c) = nI c := (by decide +kernel : ∀ c, c < 256 → vp_nar .char (nI c) = nI c) c h
def PFr (P : Nat) (m m' : ct_M) : Prop := m'.2 = m.2 ∧ ∀ q, (q < P ∨ P + 5 ≤ q) → m'.1 q = m.1 q
theorem PFr.rf {P : Nat} {m : ct_M} : PFr P m m := ⟨rfl, fun _ _ => rfl⟩
theorem PFr.tr {P : Nat} {m m' m'' : ct_M} (h : PFr P m m') (g : PFr P m' m'') : PFr P m m'' := ⟨g.1.trans h.1, fun q hq => (g.2 q hq).trans (h.2 q hq)⟩
theorem PFr.st {P q j : Nat} {m : ct_M} {x : Int32} (h : P ≤ q) (h2 : q < P + 5) : PFr P m (ct_st m q j x) := ⟨rfl, fun i hi => ct_st_ne (by omega)⟩
def CTx (L : Nat) (x : Nat → Nat) (m : ct_M) : Prop := m.1 1 1 = nI L ∧ ∀ k, k < L → x k < 256 ∧ m.1 2 k = nI (x k)
def CI (m : ct_M) (P : Nat) (S : PQ) : Prop := match S with
  | (_, n, d, q, _, W) => m.1 P 3 = nI n ∧ m.1 P 5 = nI d ∧ (∀ j, j < n → m.1 (P + 1) j = W 0 j ∧ m.1 (P + 2) j = W 1 j ∧ (W 0 j = 40 → ¬ W 2 j = -9 → m.1 (P + 3) j = W 2 j) ∧ ((W 0 j = 123 ∨ W 0 j = 124) → ¬ W 3 j = -9 → m.1 (P + 3) j = W 3 j)) ∧ ∀ i, i < d → (¬ W 2 (q i) = -9 → m.1 (P + 4) i = W 2 (q i)) ∧ (W 2 (q i) = -9 → m.1 (P + 4) i = nI (q i))
theorem c_put54 {t n c : Nat} {e : Int32} {Q : ct_M → Prop} {m : ct_M} (ht : t < 3) (hn : n < 60) (hc : c < 256) (h3 : m.1 (11 + 5 * t) 3 = nI n)
    (h : ∀ m', PFr (11 + 5 * t) m m' → m'.1 (11 + 5 * t) = upd (m.1 (11 + 5 * t)) 3 (nI (n + 1)) → m'.1 (11 + 5 * t + 1) = upd (m.1 (11 + 5 * t + 1)) n (nI c) → m'.1 (11 + 5 * t + 2) = upd (m.1 (11 + 5 * t + 2)) n e → m'.1 (11 + 5 * t + 3) = m.1 (11 + 5 * t + 3) → m'.1 (11 + 5 * t + 4) = m.1 (11 + 5 * t + 4) → Q m') : wb_X5_add_54 Q (11 + 5 * t) (nI c) e m := by
  obtain ⟨l1, l2, -⟩ := p_len ht
  unfold wb_X5_add_54
  rw [h3]
  simp (disch := omega) only [vp_nI, cl, l1, l2]
  refine ⟨hn, ?_⟩
  intro m2 e2
  rw [nar_char hc] at e2
  have s2 : m2.1 (11 + 5 * t) 3 = nI n := by subst e2; rw [ct_st_ne (by omega)]; exact h3
  rw [s2]
  simp (disch := omega) only [vp_nI, cl]
  refine ⟨hn, ?_⟩
  intro m4 e4
  have s4 : m4.1 (11 + 5 * t) = m.1 (11 + 5 * t) := by subst e4 e2; rw [ct_st_ne (by omega), ct_st_ne (by omega)]
  intro m5 e5
  rw [s4, h3, nI_ofNat 1, nI_add] at e5
  refine h m5 ?_ ?_ ?_ ?_ ?_ ?_
  · subst e5 e4 e2
    exact ((PFr.st (by omega) (by omega)).tr (PFr.st (by omega) (by omega))).tr (PFr.st (by omega) (by omega))
  · subst e5; rw [ct_st_eq, s4]
  · subst e5 e4 e2; rw [ct_st_ne (by omega), ct_st_ne (by omega), ct_st_eq]
  · subst e5 e4 e2; rw [ct_st_ne (by omega), ct_st_eq, ct_st_ne (by omega)]
  · subst e5 e4 e2; rw [ct_st_ne (by omega), ct_st_ne (by omega), ct_st_ne (by omega)]
  · subst e5 e4 e2; rw [ct_st_ne (by omega), ct_st_ne (by omega), ct_st_ne (by omega)]
theorem c_match {t n d f : Nat} {Q : ct_M → Prop} {m : ct_M} (ht : t < 3) (hd : 0 < d) (hd3 : d ≤ 3) (hf : f < 60) (h3 : m.1 (11 + 5 * t) 3 = nI n) (h5 : m.1 (11 + 5 * t) 5 = nI d) (hu : m.1 (11 + 5 * t + 4) (d - 1) = nI f)
    (h : ∀ m', PFr (11 + 5 * t) m m' → m'.1 (11 + 5 * t) = upd (m.1 (11 + 5 * t)) 5 (nI (d - 1)) → m'.1 (11 + 5 * t + 1) = m.1 (11 + 5 * t + 1) → m'.1 (11 + 5 * t + 2) = m.1 (11 + 5 * t + 2) → m'.1 (11 + 5 * t + 3) = upd (m.1 (11 + 5 * t + 3)) f (nI n) → m'.1 (11 + 5 * t + 4) = m.1 (11 + 5 * t + 4) → Q m') : wp_X5_matchLast (11 + 5 * t) Q m := by
  obtain ⟨-, -, l3⟩ := p_len ht
  have l4 := p_len4 ht
  unfold wp_X5_matchLast
  rw [h5]
  refine ⟨fun z => absurd ((cmp_lt (b := 1) (by omega) (by decide)).mp z) (by omega), fun _ => ⟨fun z => absurd ((cmp_lt (a := 3) (by decide) (by omega)).mp z) (by omega), fun _ => ?_⟩⟩
  have e1 : nI d - 1 = nI (d - 1) := by
    have := nI_pred (d - 1)
    rw [show d - 1 + 1 = d by omega] at this
    exact this
  intro m3 e3
  rw [e1] at e3
  have s3 : m3.1 (11 + 5 * t) = upd (m.1 (11 + 5 * t)) 5 (nI (d - 1)) := by subst e3; exact ct_st_eq
  have o3 : ∀ q, q ≠ 11 + 5 * t → m3.1 q = m.1 q := fun q hq => by subst e3; exact ct_st_ne hq
  rw [s3, upd_same, upd_ne _ _ (by decide), h3]
  simp (disch := omega) only [vp_nI, cl, l4]
  refine ⟨by omega, ?_⟩
  intro x5 hx
  rw [o3 _ (by omega), hu] at hx
  subst hx
  simp (disch := omega) only [vp_nI, cl, l3]
  refine ⟨fun z => absurd z (nI_pos (by omega)), fun _ => ⟨fun z => absurd ((cmp_le (a := 60) (by decide) (by omega)).mp z) (by omega), fun _ => ⟨hf, ?_⟩⟩⟩
  intro m9 e9
  refine h m9 ?_ ?_ ?_ ?_ ?_ ?_
  · subst e9 e3; exact (PFr.st (by omega) (by omega)).tr (PFr.st (by omega) (by omega))
  · subst e9; rw [ct_st_ne (by omega)]; exact s3
  · subst e9; rw [ct_st_ne (by omega)]; exact o3 _ (by omega)
  · subst e9; rw [ct_st_ne (by omega)]; exact o3 _ (by omega)
  · subst e9; rw [ct_st_eq, o3 _ (by omega)]
  · subst e9; rw [ct_st_ne (by omega)]; exact o3 _ (by omega)
theorem c_leave {t n d : Nat} {Q : ct_M → Prop} {m : ct_M} (ht : t < 3) (hd3 : d < 3) (h3 : m.1 (11 + 5 * t) 3 = nI n) (h5 : m.1 (11 + 5 * t) 5 = nI d)
    (h : ∀ m', PFr (11 + 5 * t) m m' → m'.1 (11 + 5 * t) = upd (m.1 (11 + 5 * t)) 5 (nI (d + 1)) → m'.1 (11 + 5 * t + 1) = m.1 (11 + 5 * t + 1) → m'.1 (11 + 5 * t + 2) = m.1 (11 + 5 * t + 2) → m'.1 (11 + 5 * t + 3) = m.1 (11 + 5 * t + 3) → m'.1 (11 + 5 * t + 4) = upd (m.1 (11 + 5 * t + 4)) d (nI n) → Q m') : wp_X5_leaveUnmatched (11 + 5 * t) Q m := by
  have l4 := p_len4 ht
  unfold wp_X5_leaveUnmatched
  rw [h5, h3]
  simp (disch := omega) only [vp_nI, cl, l4]
  refine ⟨fun z => absurd z (nI_pos (by omega)), fun _ => ⟨fun z => absurd ((cmp_le (a := 3) (by decide) (by omega)).mp z) (by omega), fun _ => ⟨hd3, ?_⟩⟩⟩
  intro m4 e4 m5 e5
  have s4 : m4.1 (11 + 5 * t) = m.1 (11 + 5 * t) := by subst e4; exact ct_st_ne (by omega)
  rw [s4, h5, nI_ofNat 1, nI_add] at e5
  refine h m5 ?_ ?_ ?_ ?_ ?_ ?_
  · subst e5 e4; exact (PFr.st (by omega) (by omega)).tr (PFr.st (by omega) (by omega))
  · subst e5; rw [ct_st_eq, s4]
  · subst e5 e4; rw [ct_st_ne (by omega), ct_st_ne (by omega)]
  · subst e5 e4; rw [ct_st_ne (by omega), ct_st_ne (by omega)]
  · subst e5 e4; rw [ct_st_ne (by omega), ct_st_ne (by omega)]
  · subst e5 e4; rw [ct_st_ne (by omega), ct_st_eq]
/-- one token is added -/
theorem c_add {L t : Nat} {x : Nat → Nat} {S S' : PQ} {e : Int32} {Q : ct_M → Prop} {m : ct_M} (hL : L ≤ 60) (ht : t < 3) (hx : ∀ k, k < L → x k < 256) (h0 : PI0 L S) (hj : PJ S) (hC : CI m (11 + 5 * t) S) (hs : tStep L x S = some S') (he : e = S'.2.2.2.2.2 1 S.2.1)
    (h : ∀ m', PFr (11 + 5 * t) m m' → CI m' (11 + 5 * t) S' → Q m') : wp_X5_add (11 + 5 * t) (nI (x S.1)) e Q m := by
  obtain ⟨p, n, d, q, dp, W⟩ := S
  obtain ⟨g1, g2, g3, g4, g5⟩ := h0
  have g1 : p ≤ L := g1
  have g2 : n ≤ p := g2
  have g3 : d ≤ 3 := g3
  have g4 : ∀ i, i < d → q i < n ∧ (W 0 (q i) = 40 ∨ W 0 (q i) = 123) := g4
  have g5 : ∀ i j, i < j → j < d → q i < q j := g5
  obtain ⟨i1, i2, i3, i4⟩ := hC
  have he : e = S'.2.2.2.2.2 1 n := he
  show wp_X5_add (11 + 5 * t) (nI (x p)) e Q m
  rw [tStep_def] at hs
  have hp : p < L := by
    refine Decidable.byContradiction fun hp => ?_
    rw [if_neg hp] at hs; cases hs
  rw [if_pos hp] at hs
  have hx1 := hx p hp
  have E := fun k hk => eqI hx1 k hk
  have hn : n < 60 := by omega
  have e3 : m.1 (11 + 5 * t) 3 < (60 : Int32) := by rw [i1]; exact (cmp_lt (b := 60) (by omega) (by decide)).mpr hn
  -- nothing opens, nothing closes
  have plain : ¬ (x p = 40 ∨ x p = 123 ∨ x p = 124 ∨ x p = 41 ∨ x p = 125) → ∀ p' dp', S' = (p', n + 1, d, q, dp', pPut W n (nI (x p)) e) → wp_X5_add (11 + 5 * t) (nI (x p)) e Q m := by
    intro c p' dp' hS
    have nn : ∀ k, k = 40 ∨ k = 123 ∨ k = 124 ∨ k = 41 ∨ k = 125 → ¬ nI (x p) = nI k := fun k hk z => c (by have := (E k (by omega)).mp z; omega)
    unfold wp_X5_add wb_X5_add_32
    refine ⟨fun _ => ⟨fun z => absurd z (nn 124 (by omega)), fun _ => ⟨fun z => absurd z (nn 41 (by omega)), fun _ => ⟨fun _ => ⟨fun z => absurd z (nn 40 (by omega)), fun _ => ⟨fun z => absurd z (nn 124 (by omega)), fun _ => ⟨fun _ => ?_, fun z => absurd z (nn 123 (by omega))⟩⟩⟩, fun z => absurd z (nn 125 (by omega))⟩⟩⟩, fun z => absurd e3 z⟩
    refine c_put54 ht hn hx1 i1 (fun m' f a0 a1 a2 a3 a4 => h m' f ?_)
    rw [hS]
    refine ⟨by rw [a0, upd_same], by rw [a0, upd_ne _ _ (by decide)]; exact i2, fun j hj => ?_, fun i hi => ?_⟩
    · rw [a1, a2, a3]
      by_cases ej : j = n
      · subst ej
        rw [upd_same, upd_same]
        exact ⟨pPut_0.symm, pPut_1.symm, fun _ z => absurd pPut_2 z, fun _ z => absurd pPut_3 z⟩
      · rw [upd_ne _ _ ej, upd_ne _ _ ej, pPut_ne 0 ej, pPut_ne 1 ej, pPut_ne 2 ej, pPut_ne 3 ej]
        exact i3 j (by omega)
    · have := (g4 i hi).1
      rw [a4, pPut_ne 2 (by omega)]
      exact i4 i hi
  -- a closing sign
  have clo : (x p = 41 ∨ x p = 125) → 0 < d → ∀ (f : Nat) (W' : Nat → Row), f < n → m.1 (11 + 5 * t + 4) (d - 1) = nI f → (∀ j, j < n → (W' 0 j = W 0 j ∧ W' 1 j = W 1 j ∧ W' 2 j = W 2 j) ∧ (j ≠ f → (W 0 j = 123 ∨ W 0 j = 124) → W' 3 j = W 3 j)) → W' 3 f = nI n → ¬ W 0 f = 40 → W' 0 n = nI (x p) → W' 1 n = e → W' 2 n = -9 → W' 3 n = -9 → S' = (p + 1, n + 1, d - 1, q, awSet dp (n + 1) (d - 1), W') → wp_X5_add (11 + 5 * t) (nI (x p)) e Q m := by
    intro c hd f W' hf hu hW hW3 hf40 w0 w1 w2 w3 hS
    have c124 : ¬ nI (x p) = (124 : Int32) := fun z => by have := (E 124 (by omega)).mp z; omega
    have n40 : ¬ nI (x p) = (40 : Int32) := fun z => by have := (E 40 (by omega)).mp z; omega
    have n123 : ¬ nI (x p) = (123 : Int32) := fun z => by have := (E 123 (by omega)).mp z; omega
    have go : wb_X5_add_28 Q (11 + 5 * t) (nI (x p)) e m := by
      unfold wb_X5_add_28 wb_X5_add_32
      refine c_match ht hd g3 (by omega) i1 i2 hu (fun m1 f1 b0 b1 b2 b3 b4 => ⟨fun z => absurd z n40, fun _ => ⟨fun z => absurd z c124, fun _ => ⟨fun _ => ?_, fun z => absurd z n123⟩⟩⟩)
      refine c_put54 ht hn hx1 (by rw [b0, upd_ne _ _ (by decide)]; exact i1) (fun m' f2 a0 a1 a2 a3 a4 => h m' (f1.tr f2) ?_)
      rw [hS]
      refine ⟨by rw [a0, upd_same], by rw [a0, upd_ne _ _ (by decide), b0, upd_same], fun j hj => ?_, fun i hi => ?_⟩
      · rw [a1, a2, a3, b1, b2, b3]
        by_cases ej : j = n
        · subst ej
          rw [upd_same, upd_same, w0, w1, w2, w3]
          exact ⟨rfl, rfl, fun _ z => absurd rfl z, fun _ z => absurd rfl z⟩
        · obtain ⟨⟨v0, v1, v2⟩, v3⟩ := hW j (by omega)
          obtain ⟨j1, j2, j3, j4⟩ := i3 j (by omega)
          rw [upd_ne _ _ ej, upd_ne _ _ ej, v0, v1, v2]
          refine ⟨j1, j2, fun z1 z2 => ?_, fun z1 z2 => ?_⟩
          · have : j ≠ f := fun y => hf40 (by rw [← y]; exact z1)
            rw [upd_ne _ _ this]; exact j3 z1 z2
          · by_cases ef : j = f
            · subst ef; rw [upd_same, hW3]
            · rw [v3 ef z1] at z2 ⊢
              rw [upd_ne _ _ ef]; exact j4 z1 z2
      · have hq := (g4 i (by omega)).1
        rw [a4, b4, (hW _ hq).1.2.2]
        exact i4 i (by omega)
    unfold wp_X5_add
    refine ⟨fun _ => ⟨fun z => absurd z c124, fun _ => ⟨fun _ => go, fun z41 => ⟨fun z => ?_, fun _ => go⟩⟩⟩, fun z => absurd e3 z⟩
    exfalso
    rcases c with c | c
    · exact z41 (by rw [c]; rfl)
    · exact z (by rw [c]; rfl)
  by_cases c1 : x p = 33 ∨ x p = 120
  · rw [if_pos c1] at hs
    cases hs
    have hz : e = 0 := he.trans (pPut_1 (c := nI (x p)))
    exact plain (by omega) _ _ (by rw [hz])
  · rw [if_neg c1] at hs
    by_cases c2 : x p = 40 ∨ x p = 123
    · rw [if_pos c2] at hs
      by_cases hd : d < 3
      · rw [if_pos hd] at hs
        cases hs
        have hz : e = 0 := he.trans (pPut_1 (c := nI (x p)))
        have n124 : ¬ nI (x p) = (124 : Int32) := fun z => by have := (E 124 (by omega)).mp z; omega
        have n41 : ¬ nI (x p) = (41 : Int32) := fun z => by have := (E 41 (by omega)).mp z; omega
        have n125 : ¬ nI (x p) = (125 : Int32) := fun z => by have := (E 125 (by omega)).mp z; omega
        have go : wb_X5_add_50 Q (11 + 5 * t) (nI (x p)) e m := by
          unfold wb_X5_add_50
          refine c_leave ht hd i1 i2 (fun m1 f1 b0 b1 b2 b3 b4 => ?_)
          refine c_put54 ht hn hx1 (by rw [b0, upd_ne _ _ (by decide)]; exact i1) (fun m' f2 a0 a1 a2 a3 a4 => h m' (f1.tr f2) ?_)
          refine ⟨by rw [a0, upd_same], by rw [a0, upd_ne _ _ (by decide), b0, upd_same], fun j hj => ?_, fun i hi => ?_⟩
          · rw [a1, a2, a3, b1, b2, b3]
            by_cases ej : j = n
            · subst ej
              rw [upd_same, upd_same]
              exact ⟨pPut_0.symm, by rw [pPut_1, hz], fun _ z => absurd pPut_2 z, fun _ z => absurd pPut_3 z⟩
            · rw [upd_ne _ _ ej, upd_ne _ _ ej, pPut_ne 0 ej, pPut_ne 1 ej, pPut_ne 2 ej, pPut_ne 3 ej]
              exact i3 j (by omega)
          · rw [a4, b4]
            by_cases ei : i = d
            · subst ei
              rw [upd_same, awS_eq, pPut_2]
              exact ⟨fun z => absurd rfl z, fun _ => rfl⟩
            · have := (g4 i (by omega)).1
              rw [upd_ne _ _ ei, awS_ne ei, pPut_ne 2 (by omega)]
              exact i4 i (by omega)
        unfold wp_X5_add wb_X5_add_32
        refine ⟨fun _ => ⟨fun z => absurd z n124, fun _ => ⟨fun z => absurd z n41, fun _ => ⟨fun _ => ⟨fun _ => go, fun z40 => ⟨fun z => absurd z n124, fun _ => ⟨fun z => ?_, fun _ => go⟩⟩⟩, fun z => absurd z n125⟩⟩⟩, fun z => absurd e3 z⟩
        exfalso
        rcases c2 with c | c
        · exact z40 (by rw [c]; rfl)
        · exact z (by rw [c]; rfl)
      · rw [if_neg hd] at hs; cases hs
    · rw [if_neg c2] at hs
      by_cases c3 : x p = 124
      · rw [if_pos c3] at hs
        by_cases hc : 0 < d ∧ W 0 (q (d - 1)) = 40 ∧ W 2 (q (d - 1)) = -9
        · rw [if_pos hc] at hs
          cases hs
          have hf := (g4 (d - 1) (by omega)).1
          have hz : e = 0 := he.trans (by show wSet (pPut W n (nI (x p)) 0) 2 (q (d - 1)) (nI n) 1 n = 0; rw [wSet_k (by decide)]; exact pPut_1)
          have go : wb_X5_add_28 Q (11 + 5 * t) (nI (x p)) e m := by
            unfold wb_X5_add_28
            refine c_match ht hc.1 g3 (f := q (d - 1)) (by omega) i1 i2 ((i4 (d - 1) (by omega)).2 hc.2.2) (fun m1 f1 b0 b1 b2 b3 b4 => ?_)
            have go2 : wb_X5_add_50 Q (11 + 5 * t) (nI (x p)) e m1 := by
              unfold wb_X5_add_50
              refine c_leave (d := d - 1) (n := n) ht (by omega) (by rw [b0, upd_ne _ _ (by decide)]; exact i1) (by rw [b0, upd_same]) (fun m2 f2 d0 d1 d2 d3 d4 => ?_)
              refine c_put54 ht hn hx1 (by rw [d0, upd_ne _ _ (by decide), b0, upd_ne _ _ (by decide)]; exact i1) (fun m' f3 a0 a1 a2 a3 a4 => h m' ((f1.tr f2).tr f3) ?_)
              refine ⟨by rw [a0, upd_same], by rw [a0, upd_ne _ _ (by decide), d0, upd_same, show d - 1 + 1 = d by omega], fun j hj => ?_, fun i hi => ?_⟩
              · rw [a1, a2, a3, d1, d2, d3, b1, b2, b3, wSet_k (show (0 : Nat) ≠ 2 by decide), wSet_k (show (1 : Nat) ≠ 2 by decide), wSet_k (show (3 : Nat) ≠ 2 by decide)]
                by_cases ej : j = n
                · subst ej
                  rw [upd_same, upd_same, wSet_ne (by omega)]
                  exact ⟨pPut_0.symm, by rw [pPut_1, hz], fun _ z => absurd pPut_2 z, fun _ z => absurd pPut_3 z⟩
                · rw [upd_ne _ _ ej, upd_ne _ _ ej, pPut_ne 0 ej, pPut_ne 1 ej, pPut_ne 3 ej]
                  obtain ⟨j1, j2, j3, j4⟩ := i3 j (by omega)
                  refine ⟨j1, j2, fun z1 z2 => ?_, fun z1 z2 => ?_⟩
                  · by_cases ef : j = q (d - 1)
                    · subst ef; rw [upd_same, wSet_eq]
                    · rw [wSet_ne ef, pPut_ne 2 ej] at z2 ⊢
                      rw [upd_ne _ _ ef]; exact j3 z1 z2
                  · have : j ≠ q (d - 1) := fun y => by
                      rw [y, hc.2.1] at z1
                      exact absurd z1 (by decide)
                    rw [upd_ne _ _ this]; exact j4 z1 z2
              · rw [a4, d4, b4]
                by_cases ei : i = d - 1
                · subst ei
                  rw [upd_same, wSet_eq]
                  exact ⟨fun _ => rfl, fun z => absurd z (nI_n9 (by omega))⟩
                · have hi : i < d := hi
                  have := g5 i (d - 1) (by omega) (by omega)
                  have := (g4 i hi).1
                  rw [upd_ne _ _ ei, wSet_ne (by omega), pPut_ne 2 (by omega)]
                  exact i4 i hi
            unfold wb_X5_add_32
            refine ⟨fun z => absurd ((E 40 (by omega)).mp z) (by omega), fun _ => ⟨fun _ => go2, fun z => absurd (show nI (x p) = 124 by rw [c3]; rfl) z⟩⟩
          unfold wp_X5_add
          refine ⟨fun _ => ⟨fun _ => go, fun z => absurd (show nI (x p) = 124 by rw [c3]; rfl) z⟩, fun z => absurd e3 z⟩
        · rw [if_neg hc] at hs; cases hs
      · rw [if_neg c3] at hs
        by_cases c4 : x p = 41
        · rw [if_pos c4] at hs
          by_cases hc : 0 < d ∧ W 0 (q (d - 1)) = 40 ∧ ¬ W 2 (q (d - 1)) = -9
          · rw [if_pos hc] at hs
            cases hs
            have hf := (g4 (d - 1) (by omega)).1
            obtain ⟨b, b1, b3, b5⟩ : ∃ b : Nat, W 2 (q (d - 1)) = nI b ∧ b < n ∧ W 0 b = 124 := by
              rcases (hj.2.2.2.2 _ hf).2.1 with y | ⟨b, b1, b2, b3, b4, b5, -⟩
              · exact absurd y hc.2.2
              · exact ⟨b, b1, b3, b5⟩
            have eb : (W 2 (q (d - 1))).toNatClampNeg = b := by rw [b1, cl (by omega)]
            rw [eb] at he h
            have hz : e = 0 := he.trans (by show wSet (wSet (pPut W n (nI (x p)) 0) 3 (q (d - 1)) (nI n)) 3 b (nI n) 1 n = 0; rw [wSet_k (by decide), wSet_k (by decide)]; exact pPut_1)
            refine clo (Or.inl c4) hc.1 b (wSet (wSet (pPut W n (nI (x p)) 0) 3 (q (d - 1)) (nI n)) 3 b (nI n)) b3 (by rw [← b1]; exact (i4 (d - 1) (by omega)).1 hc.2.2) (fun j hj2 => ⟨⟨?_, ?_, ?_⟩, fun y1 y2 => ?_⟩) wSet_eq (by rw [b5]; decide) ?_ ?_ ?_ ?_ (by rw [eb])
            · rw [wSet_k (by decide), wSet_k (by decide), pPut_ne 0 (by omega)]
            · rw [wSet_k (by decide), wSet_k (by decide), pPut_ne 1 (by omega)]
            · rw [wSet_k (by decide), wSet_k (by decide), pPut_ne 2 (by omega)]
            · have : j ≠ q (d - 1) := fun y => by
                rw [y, hc.2.1] at y2
                exact absurd y2 (by decide)
              rw [wSet_ne y1, wSet_ne this, pPut_ne 3 (by omega)]
            · rw [wSet_k (by decide), wSet_k (by decide), pPut_0]
            · rw [wSet_k (by decide), wSet_k (by decide), pPut_1, hz]
            · rw [wSet_k (by decide), wSet_k (by decide), pPut_2]
            · rw [wSet_ne (by omega), wSet_ne (by omega), pPut_3]
          · rw [if_neg hc] at hs; cases hs
        · rw [if_neg c4] at hs
          by_cases c5 : x p = 125
          · rw [if_pos c5] at hs
            by_cases hc : 0 < d ∧ W 0 (q (d - 1)) = 123
            · rw [if_pos hc] at hs
              cases hs
              have hf := (g4 (d - 1) (by omega)).1
              have e2 : W 2 (q (d - 1)) = -9 := by
                rcases (hj.2.2.2.2 _ hf).2.1 with y | ⟨b, b1, b2, b3, b4, -⟩
                · exact y
                · rw [hc.2] at b4; exact absurd b4 (by decide)
              have hz : e = 0 := he.trans (by show wSet (pPut W n (nI (x p)) 0) 3 (q (d - 1)) (nI n) 1 n = 0; rw [wSet_k (by decide)]; exact pPut_1)
              refine clo (Or.inr c5) hc.1 (q (d - 1)) (wSet (pPut W n (nI (x p)) 0) 3 (q (d - 1)) (nI n)) hf ((i4 (d - 1) (by omega)).2 e2) (fun j hj2 => ⟨⟨?_, ?_, ?_⟩, fun y1 y2 => ?_⟩) wSet_eq (by rw [hc.2]; decide) ?_ ?_ ?_ ?_ rfl
              · rw [wSet_k (by decide), pPut_ne 0 (by omega)]
              · rw [wSet_k (by decide), pPut_ne 1 (by omega)]
              · rw [wSet_k (by decide), pPut_ne 2 (by omega)]
              · rw [wSet_ne y1, pPut_ne 3 (by omega)]
              · rw [wSet_k (by decide), pPut_0]
              · rw [wSet_k (by decide), pPut_1, hz]
              · rw [wSet_k (by decide), pPut_2]
              · rw [wSet_ne (by omega), pPut_3]
            · rw [if_neg hc] at hs; cases hs
          · rw [if_neg c5] at hs
            by_cases c6 : x p = 114 ∨ x p = 119
            · rw [if_pos c6] at hs
              by_cases hc : p + 1 < L ∧ 48 ≤ x (p + 1) ∧ x (p + 1) ≤ 48 + 5
              · rw [if_pos hc] at hs
                cases hs
                have hz : e = nI (x (p + 1) - 48) := he.trans (pPut_1 (c := nI (x p)))
                exact plain (by omega) _ _ (by rw [hz])
              · rw [if_neg hc] at hs; cases hs
            · rw [if_neg c6] at hs
              by_cases c7 : x p = 43 ∨ x p = 45 ∨ x p = 63
              · rw [if_pos c7] at hs
                by_cases hc : p + 1 < L ∧ 48 ≤ x (p + 1) ∧ x (p + 1) ≤ 48 + 9
                · rw [if_pos hc] at hs
                  cases hs
                  have hz : e = nI (x (p + 1) - 48) := he.trans (pPut_1 (c := nI (x p)))
                  exact plain (by omega) _ _ (by rw [hz])
                · rw [if_neg hc] at hs; cases hs
              · rw [if_neg c7] at hs; cases hs
