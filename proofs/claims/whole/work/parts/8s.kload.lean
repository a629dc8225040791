/-! load -/
theorem rFresh_z {T i : Nat} {a b : Nat → Int32} (h : 6 ≤ i) (h1 : i ≠ 72) (h2 : i ≠ 121) (h3 : i ≠ 170) : rFresh T a b i = 0 := by
  unfold rFresh
  rw [if_neg (by omega), if_neg (by omega), if_neg (by omega), if_neg (by omega)]
theorem rFresh_v {T i : Nat} {a b : Nat → Int32} (h : i < 6) : rFresh T a b i = a i := if_pos h
theorem rFresh_r {T t : Nat} {a b : Nat → Int32} (h : t < T) (hT : T ≤ 3) : rFresh T a b (rAt t + 47) = b t := by
  have : t = 0 ∨ t = 1 ∨ t = 2 := by omega
  unfold rFresh rAt
  rcases this with z | z | z <;> subst z
  · rw [if_neg (by omega), if_pos (by omega)]
  · rw [if_neg (by omega), if_neg (by omega), if_pos (by omega)]
  · rw [if_neg (by omega), if_neg (by omega), if_neg (by omega), if_pos (by omega)]
theorem rFresh_u {T t : Nat} {a b : Nat → Int32} (h : T ≤ t) (ht : t < 3) : rFresh T a b (rAt t + 47) = 0 := by
  unfold rFresh rAt
  rw [if_neg (by omega), if_neg (by omega), if_neg (by omega), if_neg (by omega)]
theorem PS_of {G : Prg} {t p n : Nat} {q dp : Nat → Nat} {W : Nat → Row} (h : PJ (p, n, 0, q, dp, W)) (hn : n < 60) (h1 : G 1025 t = nI n) (h2 : ∀ k, k < 4 → ∀ j, j < n → G (1026 + k) (60 * t + j) = W k j) : PS G t n dp := by
  obtain ⟨g1, g2, g3, g4, g5⟩ := h
  have e0 : ∀ j, j < n → G 1026 (60 * t + j) = W 0 j := fun j hj => h2 0 (by omega) j hj
  have e1 : ∀ j, j < n → G 1027 (60 * t + j) = W 1 j := fun j hj => h2 1 (by omega) j hj
  have e2 : ∀ j, j < n → G 1028 (60 * t + j) = W 2 j := fun j hj => h2 2 (by omega) j hj
  have e3 : ∀ j, j < n → G 1029 (60 * t + j) = W 3 j := fun j hj => h2 3 (by omega) j hj
  refine ⟨hn, h1, fun j hj => ?_, g1, g3, fun j hj => ?_⟩
  · rw [e0 j hj, e1 j hj]; exact (g5 j hj).1
  · obtain ⟨a1, a2, a3, a4, a5, a6⟩ := g5 j hj
    rw [e0 j hj, e2 j hj, e3 j hj]
    refine ⟨fun z => ?_, fun z => ?_, fun z => ?_, a5, fun z => a6 fun y => z (y.elim (fun w => w.elim Or.inl (fun v => Or.inr (Or.inl v))) (fun w => w.elim (fun v => Or.inr (Or.inr (Or.inl v))) (fun v => Or.inr (Or.inr (Or.inr v)))))⟩
    · obtain ⟨o1, -, o3⟩ := a3 z
      obtain ⟨c, c1, c2, c3, c4, c5, c6, c7, c8⟩ := o3 fun i hi => absurd hi (Nat.not_lt_zero i)
      exact ⟨o1, c, c1, c2, c3, c4, c5, by rw [e0 c c3]; exact c6, c8⟩
    · obtain ⟨o1, -, o3⟩ := a3 (Or.inl z)
      obtain ⟨c, c1, c2, c3, c4, c5, c6, c7, c8⟩ := o3 fun i hi => absurd hi (Nat.not_lt_zero i)
      obtain ⟨b, b1, b2⟩ := c7 z
      rcases a2 with y | ⟨b', d1, d2, d3, d4, d5, d6, d7⟩
      · rw [b1] at y; exact absurd y (nI_n9 (by omega))
      · have : b = b' := by rw [b1] at d1; exact (cmp_eq (by omega) (by omega)).mp d1
        subst this
        exact ⟨b, c, b1, c1, d2, b2, c3, by rw [e0 b d3]; exact d5, d6, d7⟩
    · obtain ⟨o1, -, o3⟩ := a4 z
      obtain ⟨c, c1, c2, c3, c4, c5⟩ := o3 fun i hi => absurd hi (Nat.not_lt_zero i)
      exact ⟨o1, c, c1, c2, c3, c4, c5⟩
theorem PG_of {G : Prg} {m : ct_M} {t p n : Nat} {q dp : Nat → Nat} {W : Nat → Row} (hn : n < 60) (hC : CI m (11 + 5 * t) (p, n, 0, q, dp, W)) (hs : PS G t n dp) (h2 : ∀ k, k < 4 → ∀ j, j < n → G (1026 + k) (60 * t + j) = W k j) : PG G m (11 + 5 * t) t n := by
  obtain ⟨i1, i2, i3, i4⟩ := hC
  have e0 : ∀ j, j < n → G 1026 (60 * t + j) = W 0 j := fun j hj => h2 0 (by omega) j hj
  have e1 : ∀ j, j < n → G 1027 (60 * t + j) = W 1 j := fun j hj => h2 1 (by omega) j hj
  have e2 : ∀ j, j < n → G 1028 (60 * t + j) = W 2 j := fun j hj => h2 2 (by omega) j hj
  have e3 : ∀ j, j < n → G 1029 (60 * t + j) = W 3 j := fun j hj => h2 3 (by omega) j hj
  refine ⟨i1, fun j hj => ?_⟩
  obtain ⟨a1, a2, a3, a4⟩ := i3 j hj
  obtain ⟨b1, b2, b3, -⟩ := hs.2.2.2.2.2 j hj
  refine ⟨by rw [e0 j hj]; exact a1, by rw [e1 j hj]; exact a2, fun z => ?_, fun z => ?_⟩
  · obtain ⟨b, c, d1, d2, d3, d4, d5, -⟩ := b2 z
    rw [e0 j hj] at z
    rw [e2 j hj] at d1 ⊢
    exact a3 z (by rw [d1]; exact nI_n9 (by omega))
  · have hc : ∃ c : Nat, G 1029 (60 * t + j) = nI c ∧ c < n := by
      rcases z with z | z
      · obtain ⟨-, c, c1, c2, c3, -⟩ := b1 (Or.inr z)
        exact ⟨c, c1, c3⟩
      · obtain ⟨-, c, c1, c2, c3, -⟩ := b3 z
        exact ⟨c, c1, c3⟩
    obtain ⟨c, c1, c2⟩ := hc
    rw [e0 j hj] at z
    rw [e3 j hj] at c1 ⊢
    exact a4 z (by rw [c1]; exact nI_n9 (by omega))
theorem V_dig {y : Nat} (h : y < 10) : V (nI y) := (by decide : ∀ y, y < 10 → -99 ≤ nI y ∧ nI y ≤ 99) y h
theorem RWf_fresh {G : Prg} {T B : Nat} {N : Nat → Nat} {D : Nat → Nat → Nat} {a b : Nat → Int32} {v : Row} (hs : PSs G T N D) (hT : T ≤ 3) (hv : ∀ i, i < 172 → v i = rFresh T a b i) (ha : ∀ c, c < 6 → V (a c)) (hb : ∀ t, t < T → ∃ r : Nat, 0 < r ∧ r ≤ 2 ∧ b t = nI r) : RWf G T N D B v := by
  have z : ∀ i, 6 ≤ i → i < 172 → i ≠ 72 → i ≠ 121 → i ≠ 170 → v i = 0 := fun i h1 h2 h3 h4 h5 => by rw [hv i h2]; exact rFresh_z h1 h3 h4 h5
  refine ⟨fun c hc => by rw [hv c (by omega), rFresh_v hc]; exact ha c hc, fun c hc => ⟨0, Nat.zero_le _, z _ (by omega) (by omega) (by omega) (by omega) (by omega)⟩, ⟨0, z 12 (by omega) (by omega) (by omega) (by omega) (by omega), by omega, fun k hk => absurd hk (Nat.not_lt_zero k)⟩, fun t ht => ?_, fun u u1 u2 => (hv _ (by unfold rAt; omega)).trans (rFresh_u u1 u2)⟩
  have hr : rAt t = 25 + 49 * t := rfl
  obtain ⟨r, r1, r2, r3⟩ := hb t ht
  refine TW_zero (hs t ht) (fun j j1 j2 => z _ (by omega) (by omega) (by omega) (by omega) (by omega)) ⟨r, r2, by rw [hv _ (by omega), rFresh_r ht hT]; exact r3, Or.inl ⟨z _ (by omega) (by omega) (by omega) (by omega) (by omega), r1⟩⟩
theorem RW_fresh {G : Prg} {T : Nat} {a b : Nat → Int32} {v : Row} {m : ct_M} (hT : T ≤ 3) (hv : ∀ i, i < 172 → v i = rFresh T a b i) (h27 : ∀ c, c < 6 → m.1 27 c = a c) (h28 : ∀ c, c < 6 → m.1 28 c = 0) (h3 : m.1 26 3 = nI T) (h7 : m.1 26 7 = 0) (hw : ∀ t, t < T → FW m (33 + 15 * t) (b t)) : RW G m 26 v T := by
  have z : ∀ i, 6 ≤ i → i < 172 → i ≠ 72 → i ≠ 121 → i ≠ 170 → v i = 0 := fun i h1 h2 h3 h4 h5 => by rw [hv i h2]; exact rFresh_z h1 h3 h4 h5
  refine ⟨⟨fun c hc => by rw [hv c (by omega), rFresh_v hc]; exact h27 c hc, fun c hc => by rw [z _ (by omega) (by omega) (by omega) (by omega) (by omega)]; exact h28 c hc⟩, h3, ⟨by rw [z 12 (by omega) (by omega) (by omega) (by omega) (by omega)]; exact h7, 0, ⟨z 12 (by omega) (by omega) (by omega) (by omega) (by omega), by omega, fun k hk => absurd hk (Nat.not_lt_zero k)⟩, fun k hk => absurd hk (Nat.not_lt_zero k)⟩, fun t ht => ?_⟩
  have hr : rAt t = 25 + 49 * t := rfl
  obtain ⟨w1, w2, w3, w4, w5, w6, w7, w8⟩ := hw t ht
  have ew : 26 + 7 + 15 * t = 33 + 15 * t := rfl
  rw [ew]
  refine ⟨⟨?_, ?_, ?_, ?_, ?_, ?_⟩, ⟨⟨0, by omega, w7⟩, fun c hc => ?_⟩, ⟨?_, fun c hc hb => ?_⟩, fun k hk => ?_⟩
  · rw [z _ (by omega) (by omega) (by omega) (by omega) (by omega)]; exact w1
  · rw [hv _ (by omega), rFresh_r ht hT]; exact w2
  · rw [z _ (by omega) (by omega) (by omega) (by omega) (by omega)]; exact w3
  · rw [z _ (by omega) (by omega) (by omega) (by omega) (by omega)]; exact w4
  · rw [z _ (by omega) (by omega) (by omega) (by omega) (by omega)]; exact w5
  · rw [z _ (by omega) (by omega) (by omega) (by omega) (by omega)]; exact w6
  · rw [w7, z _ (by omega) (by omega) (by omega) (by omega) (by omega)]
    exact ⟨⟨fun y => absurd y (bit0 c hc), fun y => absurd rfl y⟩, fun y => absurd rfl y⟩
  · rw [z _ (by omega) (by omega) (by omega) (by omega) (by omega)]; exact w8
  · rw [z _ (by omega) (by omega) (by omega) (by omega) (by omega)] at hb
    exact absurd hb (bit0 c hc)
  · rw [z _ (by omega) (by omega) (by omega) (by omega) (by omega)] at hk
    exact absurd hk (by rw [show Int32.toNatClampNeg 0 = 0 from rfl]; omega)
theorem c_slots {T : Nat} {Q : Int32 → ct_M → Prop} {m : ct_M} (h3 : m.1 26 3 = nI T) (h : ∀ m', m'.2 = m.2 → (∀ q, q ≠ 7 → m'.1 q = m.1 q) → m'.1 7 0 = 0 → m'.1 7 1 = 0 → Q (nI T) m') : ∃ n, wb_X11_load_46 Q n 0 (0 : Int32) m := by
  have l7 : ct_ln (0 + 7) = 2 := by decide +kernel
  have b0 : vp_nar .boolean (0 : Int32) = 0 := by decide
  have loop : ∀ (n j : Nat) (m1 : ct_M), j + n = 2 → m1.2 = m.2 → (∀ q, q ≠ 7 → m1.1 q = m.1 q) → (∀ i, i < j → m1.1 7 i = 0) → wb_X11_load_46 Q (n + 1) 0 (nI j) m1 := by
    intro n
    induction n with
    | zero =>
      intro j m1 hj e1 o1 z1
      have : j = 2 := by omega
      subst this
      unfold wb_X11_load_46
      refine ⟨fun _ => ?_, fun z => absurd ((cmp_le (a := 2) (by decide) (by decide)).mpr (Nat.le_refl _)) z⟩
      rw [show 0 + 26 = 26 from rfl, o1 26 (by decide), h3]
      exact h m1 e1 o1 (z1 0 (by omega)) (z1 1 (by omega))
    | succ n ih =>
      intro j m1 hj e1 o1 z1
      unfold wb_X11_load_46
      refine ⟨fun z => absurd ((cmp_le (a := 2) (by decide) (by omega)).mp z) (by omega), fun _ => ?_⟩
      rw [l7, b0, cl (by omega)]
      refine ⟨(vp_nI (by omega)).mpr (by omega), ?_⟩
      intro m4 e4 x5 h5
      rw [h5, nI_ofNat 1, nI_add]
      refine ih (j + 1) m4 (by omega) (by subst e4; exact e1) (fun q hq => by subst e4; rw [ct_st_ne hq]; exact o1 q hq) (fun i hi => ?_)
      subst e4
      rw [show 0 + 7 = 7 from rfl, ct_st_eq]
      by_cases e : i = j
      · subst e; rw [upd_same]
      · rw [upd_ne _ _ e]; exact z1 i (by omega)
  exact ⟨3, loop 2 0 m (by omega) rfl (fun _ _ => rfl) (fun i hi => absurd hi (Nat.not_lt_zero i))⟩
theorem k_load {B : Nat} {K : ct_M → Prop} {m : ct_M} (h : INV B m) (hB : B < 2 ^ 28) (hK : ∀ m', INV (B + 400) m' → K m') : wp_X11_load 0 (fun r m1 => wp_X12_load 1023 (Same K r) m1) m := by
  obtain ⟨L, x, hL, hc, hx, hr⟩ := text_of h.2.1
  have hx1 : ∀ k, k < L → x k < 256 := fun k hk => (hx k hk).1
  unfold wp_X11_load
  refine c_firstError hL hc hx (fun m1 f1 => ⟨fun e => ?_, fun e => ?_⟩)
  · obtain ⟨T, P, S, hS⟩ := is_setup hL hx1 e
    obtain ⟨s1, s2, s3, s4, s5, s6, s7, s8⟩ := id hS
    refine c_clear (fun m2 b2 o2 z2 t2 => ?_)
    have o12 : ∀ q, q ≠ 3 → q ≠ 4 → q ≠ 26 → q ≠ 27 → q ≠ 28 → m2.1 q = m.1 q := fun q a b c d g => by rw [o2 q c d g, f1.2 q a b]
    have x2 : CTx L x m2 := CTx.keep (m := m) ⟨hc, hx⟩ (o12 1 (by decide) (by decide) (by decide) (by decide) (by decide)) (o12 2 (by decide) (by decide) (by decide) (by decide) (by decide))
    refine c_fill hL x2 hS (by rw [t2]; rfl) (fun m3 f3 v3 t3 w3 => ?_)
    unfold wp_X1_forgetAll
    intro m4 e4
    have o4 : ∀ q, q ≠ 78 → m4.1 q = m3.1 q := fun q hq => by subst e4; exact ct_st_ne hq
    have t4 : m4.1 26 3 = nI T := by rw [o4 26 (by decide), t3, upd_same]
    refine c_slots t4 (fun m5 b5 o5 z50 z51 => ?_)
    -- what the class has left, from m to m5
    have far : ∀ q, q ≠ 3 → q ≠ 4 → q ≠ 7 → q ≠ 78 → (q < 11 ∨ 29 ≤ q) → (∀ t, t < 3 → q ≠ 33 + 15 * t ∧ q ≠ 34 + 15 * t ∧ q ≠ 36 + 15 * t) → m5.1 q = m.1 q := fun q a b c d g i => by
      rw [o5 q c, o4 q d, f3.2 q (by omega) i, o12 q a b (by omega) (by omega) (by omega)]
    have big : ∀ q, 79 ≤ q → m5.1 q = m.1 q := fun q hq => far q (by omega) (by omega) (by omega) (by omega) (by omega) (fun t ht => by omega)
    unfold wp_X12_load
    intro m6 e6
    have o6 : ∀ q, q ≠ 1023 → m6.1 q = m5.1 q := fun q hq => by subst e6; exact ct_st_ne hq
    have p6 : ∀ j, j ≠ 0 → m6.1 1023 j = m.1 1023 j := fun j hj => by subst e6; rw [ct_st_eq, upd_ne _ _ hj, big _ (by decide)]
    refine r_err hL (hr.far (p6 2 (by decide)) (by rw [o6 _ (by decide), big _ (by decide)])) (fun m7 f7 g7 => ⟨fun _ => ?_, fun z => absurd e z⟩)
    obtain ⟨q1, q2, q3⟩ := g7 T P S hS
    intro m8 e8
    rw [q1] at e8
    have o8 : ∀ q, q ≠ 1023 → m8.1 q = m7.1 q := fun q hq => by subst e8; exact ct_st_ne hq
    have p8 : ∀ j, j ≠ 4 → m8.1 1023 j = m7.1 1023 j := fun j hj => by subst e8; rw [ct_st_eq, upd_ne _ _ hj]
    have t8 : m8.1 1023 4 = nI T := by subst e8; rw [ct_st_eq, upd_same]
    refine r_load27 (a := fun c => nI (x (1 + c) - 48)) (b := fun t => nI (x (P t + 1) - 48)) s5 t8 (fun c hc => by rw [o8 _ (by decide)]; exact q2 c hc) (fun t ht => by rw [o8 _ (by decide)]; exact (q3 t ht).1) (fun m9 f9 r9 n9 c9 h9 z90 z91 => Same.mk (hK m9 (INV.mono (B := B) ?_ (by omega))))
    -- the end
    have low : ∀ q, q < 1023 → m9.1 q = m5.1 q := fun q hq => by rw [f9.2.1 q (by omega), o8 q (by omega), f7.2.1 q (by omega), o6 q (by omega)]
    have own : ∀ j, (j = 2 ∨ j = 16) → m9.1 1023 j = m.1 1023 j := fun j hj => by rw [f9.2.2 j (by omega), p8 j (by omega), f7.2.2 j (by omega) (by omega) (by omega) (by omega), p6 j (by omega)]
    have hi : ∀ q, (q = 1024 ∨ q = 1035 ∨ q = 1036) → m9.1 q = m.1 q := fun q hq => by rw [f9.2.1 q (by omega), o8 q (by omega), f7.2.1 q (by omega), o6 q (by omega), big q (by omega)]
    obtain ⟨hok, ⟨L0, k1, k2, k3, k4⟩, ⟨O, R, k5, k6, k7, k8, k9, k10⟩, -, -, -, -, -, ⟨H, R2, u1, u2, u3, u4, u5, u6⟩, -⟩ := h
    have thr : ∀ s, s < T → PI0 L (S s) ∧ PJ (S s) ∧ (S s).2.2.1 = 0 ∧ (S s).2.1 < 60 := fun s hs => by
      obtain ⟨g1, g2, g3⟩ := s8 s hs
      obtain ⟨a1, a2, a3, a4, a5, a6⟩ := pThr_some hL hx1 (by have := g1.2.2.1; omega) g2
      exact ⟨a1, a2, a5, by have := a1.2.1; omega⟩
    have cop : ∀ s, s < T → ∀ k, k < 4 → ∀ j, j < (S s).2.1 → m9.1 (1026 + k) (60 * s + j) = (S s).2.2.2.2.2 k j := fun s hs k hk j hj => by
      have := (thr s hs).2.2.2
      rw [c9 k hk _ (by omega), o8 _ (by omega)]
      exact (q3 s hs).2.2 k hk j hj
    have hps : PSs m9.1 T (fun s => (S s).2.1) (fun s => (S s).2.2.2.2.1) := by
      intro s hs
      obtain ⟨a1, a2, a3, a4⟩ := thr s hs
      have cp := cop s hs
      have cn : m9.1 1025 s = nI (S s).2.1 := by rw [n9 s hs, o8 _ (by decide)]; exact (q3 s hs).2.1
      show PS m9.1 s (S s).2.1 (S s).2.2.2.2.1
      revert a1 a2 a3 a4 cp cn
      generalize S s = Z
      obtain ⟨p, n, d, q, dp, W⟩ := Z
      intro a1 a2 a3 a4 cp cn
      have a3 : d = 0 := a3
      subst a3
      exact PS_of a2 a4 cn cp
    refine ⟨?_, ⟨L0, k1, ?_, ?_, fun k hk => ?_⟩, ⟨O, R, k5, k6, ?_, ?_, ?_, fun i hi2 => ?_⟩, m9.1, T, fun s => (S s).2.1, fun s => (S s).2.2.2.2.1, ⟨s4, s5, fun _ _ _ => rfl, ?_, hps, fun s hs => ?_, ?_, ?_⟩, ⟨0, R2, by omega, u2, ?_, ?_, h9, fun i hi2 => absurd hi2 (Nat.not_lt_zero i)⟩, fun s hs => Or.inl ?_⟩
    · intro b hb t ht k hk
      rcases K10_apart hb K_26 with z | z
      · subst z
        rw [low _ (by omega), far _ (by omega) (by omega) (by omega) (by omega) (by omega) (fun t' ht' => by omega)]
        exact hok 26 hb t ht k hk
      · have := K10_bound hb
        rw [low _ (by omega), big _ (by omega)]
        exact hok b hb t ht k hk
    · rw [low 1 (by omega), far 1 (by omega) (by omega) (by omega) (by omega) (by omega) (fun t ht => by omega)]; exact k2
    · rw [own 2 (by omega)]; exact k3
    · rw [low 2 (by omega), far 2 (by omega) (by omega) (by omega) (by omega) (by omega) (fun t ht => by omega), hi 1024 (by omega)]; exact k4 k hk
    · rw [low 8 (by omega), far 8 (by omega) (by omega) (by omega) (by omega) (by omega) (fun t ht => by omega)]; exact k7
    · rw [low 8 (by omega), far 8 (by omega) (by omega) (by omega) (by omega) (by omega) (fun t ht => by omega)]; exact k8
    · rw [own 16 (by omega)]; exact k9
    · rw [low 9 (by omega), far 9 (by omega) (by omega) (by omega) (by omega) (by omega) (fun t ht => by omega), low 10 (by omega), far 10 (by omega) (by omega) (by omega) (by omega) (by omega) (fun t ht => by omega), hi 1035 (by omega), hi 1036 (by omega)]; exact k10 i hi2
    · rw [f9.2.2 4 (by decide)]; exact t8
    · have C3 := (w3 s hs).1
      have C9 : CI m9 (11 + 5 * s) (S s) := C3.keep fun q a b => by rw [low q (by omega), o5 q (by omega), o4 q (by omega)]
      obtain ⟨a1, a2, a3, a4⟩ := thr s hs
      have cp := cop s hs
      have hp := hps s hs
      revert a1 a2 a3 a4 cp hp C9
      show CI m9 (11 + 5 * s) (S s) → PI0 L (S s) → PJ (S s) → (S s).2.2.1 = 0 → (S s).2.1 < 60 → (∀ k, k < 4 → ∀ j, j < (S s).2.1 → m9.1 (1026 + k) (60 * s + j) = (S s).2.2.2.2.2 k j) → PS m9.1 s (S s).2.1 (S s).2.2.2.2.1 → PG m9.1 m9 (11 + 5 * s) s (S s).2.1
      generalize S s = Z
      obtain ⟨p, n, d, q, dp, W⟩ := Z
      intro C9 a1 a2 a3 a4 cp hp
      have a3 : d = 0 := a3
      subst a3
      exact PG_of a4 C9 hp cp
    · refine RW_fresh (a := fun c => nI (x (1 + c) - 48)) (b := fun t => nI (x (P t + 1) - 48)) s5 r9 (fun c hc => ?_) (fun c hc => ?_) ?_ ?_ (fun t ht => ?_)
      · rw [low 27 (by omega), o5 27 (by decide), o4 27 (by decide)]; exact v3 c hc
      · rw [low 28 (by omega), o5 28 (by decide), o4 28 (by decide), f3.2 28 (by omega) (fun t ht => by omega)]; exact (z2 c hc).2
      · rw [low 26 (by omega), o5 26 (by decide)]; exact t4
      · rw [low 26 (by omega), o5 26 (by decide), o4 26 (by decide), t3, upd_ne _ _ (by decide), t2, upd_same]
      · refine (w3 t ht).2.keep ?_ ?_ ?_
        · rw [low _ (by omega), o5 _ (by omega), o4 _ (by omega)]
        · rw [low _ (by omega), o5 _ (by omega), o4 _ (by omega)]
        · rw [low _ (by omega), o5 _ (by omega), o4 _ (by omega)]
    · refine RWf_fresh (a := fun c => nI (x (1 + c) - 48)) (b := fun t => nI (x (P t + 1) - 48)) hps s5 r9 (fun c hc => V_dig (by have := s3 c hc; omega)) (fun t ht => ?_)
      have := (s8 t ht).1.2.2.2
      exact ⟨x (P t + 1) - 48, by omega, by omega, rfl⟩
    · rw [low 78 (by omega), o5 78 (by decide)]; subst e4; rw [show 0 + 78 = 78 from rfl, ct_st_eq, upd_same]; rfl
    · rw [low 78 (by omega), o5 78 (by decide)]; subst e4; rw [show 0 + 78 = 78 from rfl, ct_st_eq, upd_ne _ _ (by decide), f3.2 78 (by omega) (fun t ht => by omega), o12 78 (by decide) (by decide) (by decide) (by decide) (by decide)]; exact u4
    · have : s = 0 ∨ s = 1 := by omega
      rcases this with z | z <;> subst z
      · exact ⟨by rw [low 7 (by omega)]; exact z50, z90⟩
      · exact ⟨by rw [low 7 (by omega)]; exact z51, z91⟩
  · unfold wp_X12_load
    intro m2 e2
    have o2 : ∀ q, q ≠ 1023 → m2.1 q = m1.1 q := fun q hq => by subst e2; exact ct_st_ne hq
    have p2 : ∀ j, j ≠ 0 → m2.1 1023 j = m.1 1023 j := fun j hj => by subst e2; rw [ct_st_eq, upd_ne _ _ hj, f1.2 _ (by decide) (by decide)]
    refine r_err hL (hr.far (p2 2 (by decide)) (by rw [o2 _ (by decide), f1.2 _ (by decide) (by decide)])) (fun m3 f3 _ => ⟨fun z => absurd z e, fun _ => Same.mk (hK m3 ((INV_idle h ⟨fun q q1 q2 q3 => ?_, fun j hj => ?_, fun q q1 q2 q3 => ?_⟩ (h.1.near fun q q1 q2 => ?_)).mono (by omega)))⟩)
    · rw [f3.2.1 q (by omega), o2 q (by omega), f1.2 q q2 q3]
    · rw [f3.2.2 j (by omega) (by omega) (by omega) (by omega), p2 j (by omega)]
    · rw [f3.2.1 q (by omega), o2 q (by omega), f1.2 q (by omega) (by omega)]
    · rw [f3.2.1 q (by omega), o2 q (by omega), f1.2 q (by omega) (by omega)]
