theorem k_seenValue {B : Nat} {K : ct_M → Prop} {X Y : Prop} {p q : Int32} {m : ct_M} (h : INV B m) (hX : X) (hY : Y) (hK : ∀ m', INV (B + 400) m' → K m') : wp_X11_seenValue 0 p q (fun r m1 => X ∧ Y ∧ wp_X12_seenValue 1023 p q (Same K r) m1) m := by
  have hk : ∀ x, K (ct_st m 1023 0 x) := fun x => hK _ ((INV_0 h x).mono (by omega))
  obtain ⟨-, -, -, G, T, N, D, ⟨c1, c2, c3, c4, c5, c6, c7, c8⟩, -⟩ := h
  have c4' : (ct_st m 1023 0 (0 : Int32)).1 1023 4 = nI T := by rw [ct_st_eq, upd_ne _ _ (by decide)]; exact c4
  unfold wp_X11_seenValue wp_X12_seenValue
  refine c_hasThread c2 c7.2.1 (fun t ht e => ⟨fun z => absurd z (by decide), fun _ => ?_⟩) (fun e => ⟨fun _ => ⟨hX, hY, ?_⟩, fun z => absurd rfl z⟩)
  · subst e
    refine c_isCell' (fun c hc e => ⟨fun _ => ?_, fun z => absurd z (by decide)⟩) (fun e => ⟨fun z => absurd rfl z, fun _ => ⟨hX, hY, ?_⟩⟩)
    · subst e
      simp (disch := omega) only [vp_nI, cl, ln29]
      refine ⟨by omega, ?_⟩
      rw [show 0 + 26 + 3 + 4 + 15 * t = 26 + 7 + 15 * t by omega]
      refine c_value (b := 26) (t := t) (v := m.1 1030) (by decide +kernel) (w_WL K_26 (by omega)) hc (c7.1.1 c hc) (c7.2.2.2 t ht).2.2.1 ⟨hX, hY, ?_⟩
      intro m1 e1
      subst e1
      refine r_noThread c2 c1 c4' (fun t' ht' e' => ⟨fun z => absurd rfl z, fun _ => ?_⟩) (fun e => absurd rfl (e t ht))
      refine r_noCell (fun c' hc' e' => ⟨fun _ => ?_, fun z => absurd rfl z⟩) (fun e => absurd rfl (e c hc))
      refine r_sees (A := 1023 + 7) ln1030 (by omega) hc ?_
      rw [ct_st_ne (by decide)]
      exact Same.mk (hk _)
    · intro m1 e1
      subst e1
      refine r_noThread c2 c1 c4' (fun t' ht' e' => ⟨fun z => absurd rfl z, fun _ => ?_⟩) (fun e => absurd rfl (e t ht))
      refine r_noCell (fun c' hc' e' => absurd e' (e c' hc')) (fun _ => ⟨fun z => absurd z (by decide), fun _ => Same.mk (hk _)⟩)
  · intro m1 e1
    subst e1
    exact r_noThread c2 c1 c4' (fun t ht e' => absurd e' (e t ht)) (fun _ => ⟨fun _ => Same.mk (hk _), fun z => absurd z (by decide)⟩)
theorem bit_low : ∀ n, n < 64 → ∀ j, j < 6 → (bitSet (nI n) j → nI (n % 2 ^ j) ||| ((1 : Int32) <<< (nI j &&& 31)) = nI (n % 2 ^ (j + 1))) ∧ (¬ bitSet (nI n) j → nI (n % 2 ^ j) = nI (n % 2 ^ (j + 1))) := by
  have h : ∀ n, n < 64 → ∀ j, j < 6 → ((nI n >>> (nI j &&& 31)) &&& 1 = 1 → nI (n % 2 ^ j) ||| ((1 : Int32) <<< (nI j &&& 31)) = nI (n % 2 ^ (j + 1))) ∧ (¬ (nI n >>> (nI j &&& 31)) &&& 1 = 1 → nI (n % 2 ^ j) = nI (n % 2 ^ (j + 1))) := by decide +kernel
  exact h
theorem k_readSet {B : Nat} {K : ct_M → Prop} {X : Prop} {p : Int32} {m : ct_M} (h : INV B m) (hX : X) (hK : ∀ m', INV (B + 400) m' → K m') : wp_X11_readSet 0 p (fun r m1 => X ∧ wp_X12_readSet 1023 p (Same K r) m1) m := by
  have hk : ∀ x, K (ct_st m 1023 0 x) := fun x => hK _ ((INV_0 h x).mono (by omega))
  obtain ⟨-, -, -, G, T, N, D, ⟨c1, c2, c3, c4, c5, c6, c7, c8⟩, -⟩ := h
  have c4' : (ct_st m 1023 0 (0 : Int32)).1 1023 4 = nI T := by rw [ct_st_eq, upd_ne _ _ (by decide)]; exact c4
  unfold wp_X11_readSet wp_X12_readSet
  refine c_hasThread c2 c7.2.1 (fun t ht e => ⟨fun z => absurd z (by decide), fun _ => ?_⟩) (fun e => ⟨fun _ => ⟨hX, ?_⟩, fun z => absurd rfl z⟩)
  · subst e
    simp (disch := omega) only [vp_nI, cl, ln29, fa_eq]
    refine ⟨by omega, hX, r_noThread c2 c1 c4' (fun t' ht' e' => ⟨fun _ => ?_, fun z => absurd rfl z⟩) (fun e => absurd rfl (e t ht))⟩
    rw [show 0 + 26 + 3 + 4 + 15 * t = 26 + 7 + 15 * t by omega]
    have hr : rAt t = 25 + 49 * t := rfl
    obtain ⟨⟨n, n6, en⟩, rr⟩ := (c7.2.2.2 t ht).2.1
    have tr := (RWf_TR c5 c8 t ht).1
    rw [en]
    have loop : ∀ (k j : Nat), j + k = 6 → wb_X12_readSet_19 (Same K (nI n)) (k + 1) 1023 (nI t) (nI (n % 2 ^ j)) (nI j) (ct_st m 1023 0 (0 : Int32)) := by
      intro k
      induction k with
      | zero =>
        intro j hj
        have : j = 6 := by omega
        subst this
        unfold wb_X12_readSet_19
        rw [Nat.mod_eq_of_lt (by omega)]
        exact ⟨fun _ => Same.mk (hk _), fun e => absurd (by decide) e⟩
      | succ k ih =>
        intro j hj
        have nx := ih (j + 1) (by omega)
        unfold wb_X12_readSet_19
        simp (disch := omega) only [nI_ofNat, cmp_le]
        refine ⟨fun e => absurd e (by omega), fun _ => r_at' ?_⟩
        simp (disch := omega) only [nI_add, vp_nI, cl, ln1030]
        rw [ct_st_ne (by decide), show 1023 + 7 = 1030 from rfl]
        have e3 : m.1 1030 (25 + 49 * t + 3 + j) = m.1 1030 (rAt t + 3 + j) := rfl
        rw [e3]
        have bl := bit_low n n6 j (by omega)
        refine ⟨by omega, fun e => ?_, fun e => ?_⟩
        · have : ¬ bitSet (nI n) j := fun z => by
            rw [← en] at z
            have := (rr j (by omega)).1.mp z
            exact (tr j (by omega)).elim this (fun q => q e)
          unfold wb_X12_readSet_49
          intro x1 h1 x2 h2
          have hx : x1 = nI (n % 2 ^ (j + 1)) := by rw [h1, ← bl.2 this]; exact Int32.or_zero
          rw [hx, h2, nI_ofNat 1, nI_add]; exact nx
        · have : bitSet (nI n) j := by
            rw [← en]
            refine (rr j (by omega)).1.mpr fun z => e ?_
            rw [z]; decide
          unfold wb_X12_readSet_49
          intro x1 h1 x2 h2
          have hx : x1 = nI (n % 2 ^ (j + 1)) := by rw [h1]; exact bl.1 this
          rw [hx, h2, nI_ofNat 1, nI_add]; exact nx
    have := loop 6 0 rfl
    rw [show n % 2 ^ 0 = 0 by omega] at this
    exact ⟨7, this⟩
  · intro m1 e1
    subst e1
    exact r_noThread c2 c1 c4' (fun t ht e' => absurd e' (e t ht)) (fun _ => ⟨fun z => absurd z (by decide), fun _ => Same.mk (hk _)⟩)
theorem INV_textual {B : Nat} {m m' : ct_M} (h : INV B m) (h1 : ∀ q, q < 912 → q ≠ 1 → q ≠ 2 → q ≠ 3 → q ≠ 4 → m'.1 q = m.1 q) (h2 : ∀ j, (j = 4 ∨ j = 13 ∨ j = 16) → m'.1 1023 j = m.1 1023 j) (h3 : ∀ q, 1025 ≤ q → q ≤ 1036 → q ≠ 1031 → m'.1 q = m.1 q) (ht : IText m') (ho : OkAll m') : INV B m' := by
  -- an idle change of a memory whose text has been changed
  let m0 : ct_M := (fun q => if q = 1 then m.1 1 else if q = 2 then m.1 2 else if q = 1024 then m.1 1024 else if q = 1023 then upd (m'.1 1023) 2 (m.1 1023 2) else m'.1 q, m'.2)
  have i0 : Idle m m0 := by
    refine ⟨fun q q1 q2 q3 => ?_, fun j hj => ?_, fun q q1 q2 q3 => ?_⟩
    · show (if q = 1 then m.1 1 else if q = 2 then m.1 2 else if q = 1024 then m.1 1024 else if q = 1023 then upd (m'.1 1023) 2 (m.1 1023 2) else m'.1 q) = _
      by_cases e1 : q = 1
      · rw [if_pos e1, e1]
      · rw [if_neg e1]
        by_cases e2 : q = 2
        · rw [if_pos e2, e2]
        · rw [if_neg e2, if_neg (by omega), if_neg (by omega)]; exact h1 q q1 e1 e2 q2 q3
    · show upd (m'.1 1023) 2 (m.1 1023 2) j = _
      by_cases e : j = 2
      · subst e; exact upd_same _ _ _
      · rw [upd_ne _ _ e]; exact h2 j (by omega)
    · show (if q = 1 then m.1 1 else if q = 2 then m.1 2 else if q = 1024 then m.1 1024 else if q = 1023 then upd (m'.1 1023) 2 (m.1 1023 2) else m'.1 q) = _
      rw [if_neg (by omega), if_neg (by omega)]
      by_cases e : q = 1024
      · rw [if_pos e, e]
      · rw [if_neg e, if_neg (by omega)]; exact h3 q (by omega) q2 q3
  have e0 : ∀ q, q ≠ 1 → q ≠ 2 → q ≠ 1024 → q ≠ 1023 → m0.1 q = m'.1 q := fun q a1 a2 a3 a4 => by
    show (if q = 1 then m.1 1 else if q = 2 then m.1 2 else if q = 1024 then m.1 1024 else if q = 1023 then upd (m'.1 1023) 2 (m.1 1023 2) else m'.1 q) = _
    rw [if_neg a1, if_neg a2, if_neg a3, if_neg a4]
  have e23 : ∀ j, j ≠ 2 → m0.1 1023 j = m'.1 1023 j := fun j hj => upd_ne _ _ hj
  have ho0 : OkAll m0 := ho.same fun q hq => e0 q (by rintro rfl; exact absurd hq (by decide +kernel)) (by rintro rfl; exact absurd hq (by decide +kernel)) (by rintro rfl; exact absurd hq (by decide +kernel)) (by rintro rfl; exact absurd hq (by decide +kernel))
  obtain ⟨-, -, ⟨O, P, o1, o2, o3, o4, o5, o6⟩, G, T, N, D, ⟨c1, c2, c3, c4, c5, c6, c7, c8⟩, ⟨H, R, g1, g2, g3, g4, g5, g6⟩, hsl⟩ := INV_idle h i0 ho0
  have e30 : m0.1 1030 = m'.1 1030 := e0 _ (by omega) (by omega) (by omega) (by omega)
  refine ⟨ho, ht, ⟨O, P, o1, o2, ?_, ?_, ?_, fun i hi => ?_⟩, G, T, N, D, ⟨c1, c2, fun k k1 k2 => ?_, ?_, c5, fun s hs => ?_, ?_, ?_⟩, ⟨H, R, g1, g2, ?_, ?_, ?_, fun i hi => ?_⟩, fun s hs => ?_⟩
  · rw [← e0 8 (by omega) (by omega) (by omega) (by omega)]; exact o3
  · rw [← e0 8 (by omega) (by omega) (by omega) (by omega)]; exact o4
  · rw [← e23 16 (by omega)]; exact o5
  · rw [← e0 9 (by omega) (by omega) (by omega) (by omega), ← e0 10 (by omega) (by omega) (by omega) (by omega), ← e0 1035 (by omega) (by omega) (by omega) (by omega), ← e0 1036 (by omega) (by omega) (by omega) (by omega)]; exact o6 i hi
  · rw [← e0 k (by omega) (by omega) (by omega) (by omega)]; exact c3 k k1 k2
  · rw [← e23 4 (by omega)]; exact c4
  · obtain ⟨p1, p2⟩ := c6 s hs
    refine ⟨by rw [← e0 _ (by omega) (by omega) (by omega) (by omega)]; exact p1, fun k hk => ?_⟩
    rw [← e0 (11 + 5 * s + 1) (by omega) (by omega) (by omega) (by omega), ← e0 (11 + 5 * s + 2) (by omega) (by omega) (by omega) (by omega), ← e0 (11 + 5 * s + 3) (by omega) (by omega) (by omega) (by omega)]
    exact p2 k hk
  · rw [← e30]; exact RW_mem c7 c2 (RWf_TR c5 c8) fun q q1 q2 => (e0 q (by omega) (by omega) (by omega) (by omega)).symm
  · rw [← e30]; exact c8
  · rw [← e0 78 (by omega) (by omega) (by omega) (by omega)]; exact g3
  · rw [← e0 78 (by omega) (by omega) (by omega) (by omega)]; exact g4
  · rw [← e23 13 (by omega)]; exact g5
  · have e : hrow m' i = hrow m0 i := by unfold hrow; rw [e0 1032 (by omega) (by omega) (by omega) (by omega)]
    rw [e]
    exact ⟨RW_mem (g6 i hi).1 c2 (RWf_TR c5 (g6 i hi).2) (fun q q1 q2 => (e0 q (by omega) (by omega) (by omega) (by omega)).symm), (g6 i hi).2⟩
  · have e : srow m' s = srow m0 s := by unfold srow; rw [e0 1033 (by omega) (by omega) (by omega) (by omega)]
    rw [e, ← e0 7 (by omega) (by omega) (by omega) (by omega), ← e0 1034 (by omega) (by omega) (by omega) (by omega)]
    rcases hsl s hs with z | ⟨z1, z2, z3, z4⟩
    · exact Or.inl z
    · exact Or.inr ⟨z1, z2, RW_mem z3 c2 (RWf_TR c5 z4) (fun q q1 q2 => (e0 q (by omega) (by omega) (by omega) (by omega)).symm), z4⟩
theorem kd_ne {m m' : ct_M} (h : OkAll m) (hm : ∀ q, q ≠ 1 → q ≠ 2 → q ≠ 3 → q ≠ 4 → q ≠ 1023 → q ≠ 1024 → m'.1 q = m.1 q) : OkAll m' :=
  h.same fun q hq => hm q (by rintro rfl; exact absurd hq (by decide +kernel)) (by rintro rfl; exact absurd hq (by decide +kernel)) (by rintro rfl; exact absurd hq (by decide +kernel)) (by rintro rfl; exact absurd hq (by decide +kernel)) (by rintro rfl; exact absurd hq (by decide +kernel)) (by rintro rfl; exact absurd hq (by decide +kernel))
theorem char_nI : ∀ x, x < 256 → vp_nar .char (((nI x).toUInt32 % 65536).toInt32) = nI x := by decide +kernel
theorem k_clearText {B : Nat} {K : ct_M → Prop} {m : ct_M} (h : INV B m) (hK : ∀ m', INV (B + 400) m' → K m') : wp_X11_clearText 0 (fun r m1 => wp_X12_clearText 1023 (Same K r) m1) m := by
  obtain ⟨L, t1, t2, t3, t4⟩ := h.2.1
  unfold wp_X11_clearText wp_X12_clearText
  intro x2 h2 m3 h3 m1 h1 y2 g2 m4 h4
  have o : ∀ q, q ≠ 1 → q ≠ 1023 → m4.1 q = m.1 q := fun q a1 a2 => by subst h4 h1 h3; rw [ct_st_ne a2, ct_st_ne a2, ct_st_ne a1]
  have ex : x2 = nI L := by rw [h2]; exact t2
  have ey : y2 = nI L := by rw [g2]; subst h1 h3; rw [ct_st_eq, upd_ne _ _ (by decide), ct_st_ne (by decide)]; exact t3
  rw [ex, ey]
  refine Same.mk (hK _ ((INV_textual h (fun q q1 q2 q3 q4 q5 => o q q2 (by omega)) (fun j hj => ?_) (fun q q1 q2 q3 => o q (by omega) (by omega)) ⟨0, by omega, ?_, ?_, fun k hk => absurd hk (by omega)⟩ (kd_ne h.1 fun q q1 q2 q3 q4 q5 q6 => o q q1 q5)).mono (by omega)))
  · subst h4 h1 h3; rw [ct_st_eq, upd_ne _ _ (by omega), ct_st_eq, upd_ne _ _ (by omega), ct_st_ne (by decide)]
  · subst h4 h1 h3; rw [ct_st_ne (by decide), ct_st_ne (by decide), show 0 + 1 = 1 from rfl, ct_st_eq, upd_same]; rfl
  · subst h4; rw [ct_st_eq, upd_same]; rfl
theorem k_append {B : Nat} {K : ct_M → Prop} {X : Prop} {p : Int32} {m : ct_M} (h : INV B m) (hX : X) (hK : ∀ m', INV (B + 400) m' → K m') : wp_X11_append 0 p (fun r m1 => X ∧ wp_X12_append 1023 p (Same K r) m1) m := by
  have hk : ∀ x, K (ct_st m 1023 0 x) := fun x => hK _ ((INV_0 h x).mono (by omega))
  obtain ⟨L, t1, t2, t3, t4⟩ := h.2.1
  have l2 : ct_ln (0 + 1 + 1) = 60 := by decide +kernel
  have l24 : ct_ln (1023 + 1) = 60 := by decide +kernel
  have bad : ¬ (∃ c : Nat, c < 256 ∧ p = nI c) → wp_X12_append 1023 p (Same K (-2)) m := by
    intro hn
    unfold wp_X12_append
    intro m1 h1
    subst h1
    exact r_lim (k := 256) (by decide) rfl (fun c hc e => absurd ⟨c, hc, e⟩ hn) (fun _ => ⟨fun z => absurd rfl z, fun _ => Same.mk (hk _)⟩)
  unfold wp_X11_append
  refine ⟨fun e => ⟨hX, bad ?_⟩, fun e => ⟨fun e2 => ?_, fun e2 => ⟨hX, bad ?_⟩⟩⟩
  · rintro ⟨c, hc, z⟩
    rw [z] at e
    exact absurd e (nI_pos (by omega))
  · obtain ⟨n, hn, en⟩ := nI_of e
    have n256 : n < 256 := by
      rw [en] at e2
      have := (cmp_le (b := 255) hn (by decide)).mp e2
      omega
    subst en
    unfold wp_X8_add
    rw [show 0 + 1 = 1 from rfl, t2]
    simp (disch := omega) only [nI_ofNat, cmp_lt, vp_nI, cl, fa_eq, l2, char_nI n n256]
    by_cases hL : L < 60
    · refine ⟨fun _ => ⟨hL, ⟨fun z => absurd z (by decide), fun _ => ⟨hX, ?_⟩⟩⟩, fun z => absurd hL z⟩
      generalize hM : ct_st (ct_st m (1 + 1) L (nI n)) 1 1 ((ct_st m (1 + 1) L (nI n)).1 1 1 + nI 1) = M
      have o1 : ∀ q, q ≠ 1 → q ≠ 2 → M.1 q = m.1 q := fun q a1 a2 => by rw [← hM, ct_st_ne a1, ct_st_ne a2]
      have m1' : M.1 1 1 = nI (L + 1) := by rw [← hM, ct_st_eq, upd_same, ct_st_ne (by decide), t2, nI_add]
      have m2' : M.1 2 = upd (m.1 2) L (nI n) := by rw [← hM, ct_st_ne (by decide), show 1 + 1 = 2 from rfl, ct_st_eq]
      rw [m1']
      unfold wp_X12_append
      intro m1 h1
      refine r_lim (k := 256) (by decide) rfl (fun c hc e => ⟨fun _ => ?_, fun z => absurd z (by decide)⟩) (fun z => absurd rfl (z n n256))
      have e32 : m1.1 1023 2 = nI L := by subst h1; rw [ct_st_eq, upd_ne _ _ (by decide), o1 _ (by omega) (by omega)]; exact t3
      rw [e32]
      refine ⟨fun _ => ?_, fun z => absurd ((cmp_eq (b := 60) (by omega) (by decide)).mp z) (by omega)⟩
      simp (disch := omega) only [vp_nI, cl, l24]
      refine ⟨hL, ?_⟩
      intro m7 h7 m8 h8
      have o8 : ∀ q, q ≠ 1 → q ≠ 2 → q ≠ 1023 → q ≠ 1024 → m8.1 q = m.1 q := fun q a1 a2 a3 a4 => by
        subst h8 h7 h1; rw [ct_st_ne a3, ct_st_ne a4, ct_st_ne a3]; exact o1 q a1 a2
      have e8 : m8.1 1023 2 = nI (L + 1) := by
        subst h8 h7; rw [ct_st_eq, upd_same, ct_st_ne (by decide), e32, nI_ofNat 1, nI_add]
      have e11 : m8.1 1 = M.1 1 := by subst h8 h7 h1; rw [ct_st_ne (by decide), ct_st_ne (by decide), ct_st_ne (by decide)]
      have e12 : m8.1 2 = M.1 2 := by subst h8 h7 h1; rw [ct_st_ne (by decide), ct_st_ne (by decide), ct_st_ne (by decide)]
      have e24 : m8.1 1024 = upd (m.1 1024) L (nI n) := by
        subst h8 h7 h1; rw [ct_st_ne (by decide), show 1023 + 1 = 1024 from rfl, ct_st_eq, ct_st_ne (by decide), o1 _ (by omega) (by omega)]
      rw [e8]
      refine Same.mk (hK _ ((INV_textual h (fun q q1 q2 q3 q4 q5 => o8 q q2 q3 (by omega) (by omega)) (fun j hj => ?_) (fun q q1 q2 q3 => o8 q (by omega) (by omega) (by omega) (by omega)) ⟨L + 1, by omega, ?_, e8, fun k hk => ?_⟩ (kd_ne h.1 fun q q1 q2 q3 q4 q5 q6 => o8 q q1 q2 q5 q6)).mono (by omega)))
      · subst h8 h7 h1; rw [ct_st_eq, upd_ne _ _ (by omega), ct_st_ne (by decide), ct_st_eq, upd_ne _ _ (by omega), o1 _ (by omega) (by omega)]
      · rw [e11]; exact m1'
      · rw [e12, m2', e24]
        by_cases ek : k = L
        · subst ek; exact ⟨n, n256, upd_same _ _ _, upd_same _ _ _⟩
        · rw [upd_ne _ _ ek, upd_ne _ _ ek]; exact t4 k (by omega)
    · refine ⟨fun z => absurd z hL, fun _ => ⟨fun _ => ⟨hX, ?_⟩, fun z => absurd trivial z⟩⟩
      unfold wp_X12_append
      intro m1 h1
      subst h1
      refine r_lim (k := 256) (by decide) rfl (fun c hc e => ⟨fun _ => ?_, fun z => absurd z (by decide)⟩) (fun z => absurd rfl (z n n256))
      rw [ct_st_eq, upd_ne _ _ (by decide), t3]
      have : L = 60 := by omega
      subst this
      exact ⟨fun z => absurd rfl z, fun _ => Same.mk (hk _)⟩
  · rintro ⟨c, hc, z⟩
    rw [z] at e2
    exact e2 ((cmp_le (b := 255) (by omega) (by decide)).mpr (by omega))
