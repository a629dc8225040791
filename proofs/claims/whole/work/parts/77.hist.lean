/-! the history -/
def CHist (G : Prg) (T : Nat) (m : ct_M) (H P : Nat) (hs : Nat → Row) : Prop := H ≤ 14 ∧ P < 14 ∧ m.1 78 1 = nI H ∧ m.1 78 2 = nI P ∧ ∀ i, i < H → RW G m (80 + 52 * ((P + 14 - H + i) % 14)) (hs i) T
def hNext (H : Nat) (hs : Nat → Row) (v : Row) : Nat → Row := fun i => if H < 14 then (if i = H then v else hs i) else (if i = 13 then v else hs (i + 1))
def hLen (H : Nat) : Nat := if H < 14 then H + 1 else 14
theorem CHist_mem {G : Prg} {T H P : Nat} {m m' : ct_M} {hs : Nat → Row} (h : CHist G T m H P hs) (hT : T ≤ 3) (hr : ∀ i, i < H → ∀ t, t < T → TR (hs i) t) (hm : ∀ q, 78 ≤ q → q < 808 → m'.1 q = m.1 q) : CHist G T m' H P hs := by
  obtain ⟨h1, h2, h3, h4, h5⟩ := h
  exact ⟨h1, h2, by rw [hm _ (by omega) (by omega)]; exact h3, by rw [hm _ (by omega) (by omega)]; exact h4, fun i hi => RW_mem (h5 i hi) hT (hr i hi) fun q q1 q2 => hm q (by omega) (by omega)⟩
theorem c_remember {G : Prg} {T H P : Nat} {hs : Nat → Row} {v : Row} {Q : ct_M → Prop} {m : ct_M} (hT : T ≤ 3) (ho : OkAll m) (hc : CHist G T m H P hs) (hr : ∀ i, i < H → ∀ t, t < T → TR (hs i) t) (hv : ∀ t, t < T → TR v t) (hw : RW G m 26 v T)
    (h : ∀ m', m'.2 = m.2 → (∀ q, q < 78 ∨ 808 ≤ q → m'.1 q = m.1 q) → OkAll m' → RW G m' 26 v T → (∃ P', CHist G T m' (hLen H) P' (hNext H hs v)) → Q m') : wp_X1_remember (0 + 78) (0 + 26) Q m := by
  obtain ⟨h1, h2, h3, h4, h5⟩ := hc
  have l : ct_ln (0 + 78 + 1) = 14 := by decide +kernel
  have el : ct_elW (0 + 78 + 1) P = 80 + 52 * P := by unfold ct_elW; rw [if_neg (by omega)]
  unfold wp_X1_remember
  rw [show m.1 (0 + 78) 2 = nI P from h4]
  simp (disch := omega) only [nI_ofNat, cmp_lt, cmp_le, vp_nI, cl, l, el]
  refine ⟨fun e => absurd e (Nat.not_lt_zero _), fun _ => ⟨fun _ => ⟨h2, ?_⟩, fun e => absurd h2 e⟩⟩
  refine c_wcopy (K_ring h2) K_26 (ho 26 K_26) (by omega) (fun m1 f1 cp ok1 => ?_)
  have e78 : m1.1 78 = m.1 78 := f1.2 _ (by omega)
  have fin : ∀ s0 : Int32, s0 = nI ((P + 1) % 14) → wb_X1_remember_52 Q (0 + 78) s0 (0 + 78) m1 := by
    intro s0 es
    unfold wb_X1_remember_52
    intro m2 g2 m3 g3
    have o3 : ∀ q, q ≠ 78 → m3.1 q = m1.1 q := fun q hq => by subst g3 g2; rw [ct_st_ne hq, ct_st_ne hq]
    have c3 : m3.1 78 1 = nI (hLen H) := by
      subst g3 g2
      rw [show 0 + 78 = 78 from rfl, ct_st_eq, upd_same, ct_st_eq, upd_ne _ _ (by decide), e78, h3]
      exact (by decide : ∀ H, H < 15 → (if (14 : Int32) < nI H + 1 then (14 : Int32) else nI H + 1) = nI (hLen H)) H (by omega)
    have p3 : m3.1 78 2 = nI ((P + 1) % 14) := by
      subst g3 g2
      rw [show 0 + 78 = 78 from rfl, ct_st_eq, upd_ne _ _ (by decide), ct_st_eq, upd_same]; exact es
    have k3 : OkAll m3 := ((ho.keep (K_ring h2) f1).same fun q hq => o3 q (by rintro rfl; exact absurd hq (by decide +kernel)))
    have hl : hLen H ≤ 14 := by unfold hLen; split <;> omega
    refine h m3 (by subst g3 g2; exact f1.1.1) (fun q hq => by rw [o3 q (by omega), f1.2 q (by omega)]) k3 ?_ ⟨(P + 1) % 14, hl, by omega, c3, p3, fun i hi => ?_⟩
    · exact RW_mem hw hT hv fun q q1 q2 => by rw [o3 q (by omega), f1.2 q (by omega)]
    · have new : RW G m3 (80 + 52 * P) v T := RW_mem (cp G v T hT hv hw) hT hv fun q q1 q2 => o3 q (by omega)
      have old : ∀ j, j < H → (P + 14 - H + j) % 14 ≠ P → RW G m3 (80 + 52 * ((P + 14 - H + j) % 14)) (hs j) T := fun j hj hne => RW_mem (h5 j hj) hT (hr j hj) fun q q1 q2 => by
        rw [o3 q (by omega), f1.2 q (by omega)]
      unfold hLen at hi
      by_cases hH : H < 14
      · have eL : hLen H = H + 1 := if_pos hH
        rw [if_pos hH] at hi
        by_cases ei : i = H
        · have e1 : hNext H hs v i = v := by unfold hNext; rw [if_pos hH, if_pos ei]
          have e2 : ((P + 1) % 14 + 14 - hLen H + i) % 14 = P := by rw [eL]; omega
          rw [e1, e2]; exact new
        · have e1 : hNext H hs v i = hs i := by unfold hNext; rw [if_pos hH, if_neg ei]
          have e2 : ((P + 1) % 14 + 14 - hLen H + i) % 14 = (P + 14 - H + i) % 14 := by rw [eL]; omega
          rw [e1, e2]; exact old i (by omega) (by omega)
      · have eL : hLen H = 14 := if_neg hH
        rw [if_neg hH] at hi
        have eH : H = 14 := by omega
        by_cases ei : i = 13
        · have e1 : hNext H hs v i = v := by unfold hNext; rw [if_neg hH, if_pos ei]
          have e2 : ((P + 1) % 14 + 14 - hLen H + i) % 14 = P := by rw [eL]; omega
          rw [e1, e2]; exact new
        · have e1 : hNext H hs v i = hs (i + 1) := by unfold hNext; rw [if_neg hH, if_neg ei]
          have e2 : ((P + 1) % 14 + 14 - hLen H + i) % 14 = (P + 14 - H + (i + 1)) % 14 := by rw [eL]; omega
          rw [e1, e2]; exact old (i + 1) (by omega) (by omega)
  rw [show m1.1 (0 + 78) 2 = nI P by rw [show 0 + 78 = 78 from rfl, e78]; exact h4]
  simp (disch := omega) only [nI_add, cmp_le]
  refine ⟨fun e => fin 0 ?_, fun e => fin _ ?_⟩
  · have : P = 13 := by omega
    subst this; rfl
  · rw [Nat.mod_eq_of_lt (by omega)]
theorem ln1032 : ct_ln (1023 + 9) = 2408 := by decide
theorem r_remember {H : Nat} {Q : ct_M → Prop} {m : ct_M} (hH : H ≤ 14) (h3 : m.1 1023 13 = nI H)
    (h : ∀ m', m'.2 = m.2 → (∀ q, q ≠ 1023 → q ≠ 1032 → m'.1 q = m.1 q) → (∀ j, j ≠ 13 → m'.1 1023 j = m.1 1023 j) → m'.1 1023 13 = nI (hLen H) → (∀ i, i < hLen H → ∀ k, k < 172 → hrow m' i k = hNext H (hrow m) (m.1 1030) i k) → Q m') : wp_X12_remember 1023 Q m := by
  -- writing the state behind H' rows
  have put : ∀ (H' : Nat) (m1 : ct_M), H' < 14 → m1.2 = m.2 → (∀ q, q ≠ 1023 → q ≠ 1032 → m1.1 q = m.1 q) → (∀ j, j ≠ 13 → m1.1 1023 j = m.1 1023 j) → m1.1 1023 13 = nI H' → H' + 1 = hLen H → (∀ i, i < H' → ∀ k, k < 172 → hrow m1 i k = hNext H (hrow m) (m.1 1030) i k) → hNext H (hrow m) (m.1 1030) H' = m.1 1030 → wb_X12_remember_50 Q 1023 m1 := by
    intro H' m1 hH' e2 eo e23 e13 eL eh ev
    have loop : ∀ (n j : Nat), j + n = 172 → wb_X12_remember_52 Q (n + 1) 1023 (nI j) (pr m1 1032 (fun i => if 172 * H' ≤ i ∧ i < 172 * H' + j then m.1 1030 (i - 172 * H') else m1.1 1032 i)) := by
      intro n
      induction n with
      | zero =>
        intro j hj
        have : j = 172 := by omega
        subst this
        unfold wb_X12_remember_52
        refine ⟨fun _ => ?_, fun e => absurd (by decide) e⟩
        intro m2 g2
        have e13' : m2.1 1023 13 = nI (hLen H) := by
          rw [g2, ct_st_eq, upd_same, pr_ne _ _ (by decide), e13, ← eL, nI_ofNat 1, nI_add]
        refine h m2 ?_ (fun q q1 q2 => ?_) (fun j hj => ?_) e13' (fun i hi k hk => ?_)
        · rw [g2]; exact e2
        · rw [g2, ct_st_ne q1, pr_ne _ _ q2]; exact eo q q1 q2
        · rw [g2, ct_st_eq, upd_ne _ _ hj, pr_ne _ _ (by decide)]; exact e23 j hj
        · have er : m2.1 1032 = (fun i => if 172 * H' ≤ i ∧ i < 172 * H' + 172 then m.1 1030 (i - 172 * H') else m1.1 1032 i) := by
            rw [g2, ct_st_ne (by decide), pr_at]
          have er2 : hrow m2 i k = (if 172 * H' ≤ 172 * i + k ∧ 172 * i + k < 172 * H' + 172 then m.1 1030 (172 * i + k - 172 * H') else m1.1 1032 (172 * i + k)) := congrFun er (172 * i + k)
          rw [er2]
          by_cases ei : i = H'
          · subst ei
            rw [ev, if_pos (by omega), Nat.add_sub_cancel_left]
          · have : i < H' := by omega
            rw [if_neg (by omega)]
            exact eh i this k hk
      | succ n ih =>
        intro j hj
        have nx := ih (j + 1) (by omega)
        unfold wb_X12_remember_52
        rw [pr_ne _ _ (by decide : (1023 : Nat) ≠ 1032), e13]
        simp (disch := omega) only [nI_ofNat, cmp_le, pk_mul, nI_add, vp_nI, cl, fa_eq, ln1030, ln1032]
        refine ⟨fun e => absurd e (by omega), fun _ => ⟨by omega, by omega, ?_⟩⟩
        rw [show 1023 + 9 = 1032 from rfl, show 1023 + 7 = 1030 from rfl, pr_ne _ _ (by decide : (1030 : Nat) ≠ 1032), eo 1030 (by decide) (by decide), pr_stpr]
        refine cast (congrArg (fun r => wb_X12_remember_52 Q (n + 1) 1023 (nI (j + 1)) (pr m1 1032 r)) ?_) nx
        funext i
        simp only [upd]
        by_cases e : i = 172 * H' + j
        · subst e; rw [if_pos (by omega), if_pos rfl, Nat.add_sub_cancel_left]
        · rw [if_neg e]
          by_cases e2 : 172 * H' ≤ i ∧ i < 172 * H' + j
          · rw [if_pos (by omega), if_pos e2]
          · rw [if_neg (by omega), if_neg e2]
    unfold wb_X12_remember_50
    have := loop 172 0 rfl
    have e0 : (fun i => if 172 * H' ≤ i ∧ i < 172 * H' + 0 then m.1 1030 (i - 172 * H') else m1.1 1032 i) = m1.1 1032 := by funext i; rw [if_neg (by omega)]
    rw [e0, pr_id] at this
    exact ⟨173, this⟩
  unfold wp_X12_remember
  rw [h3]
  refine ⟨fun e => ?_, fun e => ?_⟩
  · have hlt : H < 14 := by
      by_cases z : H = 14
      · exact absurd (by rw [z]; rfl) e
      · omega
    refine put H m hlt rfl (fun _ _ _ => rfl) (fun _ _ => rfl) h3 (if_pos hlt).symm (fun i hi k hk => ?_) ?_
    · unfold hNext; rw [if_pos hlt, if_neg (by omega)]
    · unfold hNext; rw [if_pos hlt, if_pos rfl]
  · have he : H = 14 := (cmp_eq (b := 14) (by omega) (by decide)).mp e
    have hlt : ¬ H < 14 := by omega
    have loop : ∀ (n j : Nat), j + n = 2236 → wb_X12_remember_11 Q (n + 1) 1023 (nI j) (pr m 1032 (fun i => if i < j then m.1 1032 (i + 172) else m.1 1032 i)) := by
      intro n
      induction n with
      | zero =>
        intro j hj
        have : j = 2236 := by omega
        subst this
        unfold wb_X12_remember_11
        refine ⟨fun _ => ?_, fun e => absurd (by decide) e⟩
        intro m2 g2
        refine put 13 m2 (by omega) (by rw [g2]; rfl) (fun q q1 q2 => by rw [g2, ct_st_ne q1, pr_ne _ _ q2]) (fun j hj => by rw [g2, ct_st_eq, upd_ne _ _ hj, pr_ne _ _ (by decide)]) ?_ (if_neg hlt).symm (fun i hi k hk => ?_) ?_
        · rw [g2, ct_st_eq, upd_same, pr_ne _ _ (by decide), h3, he]; rfl
        · unfold hNext
          rw [if_neg hlt, if_neg (by omega)]
          have er : m2.1 1032 = (fun i => if i < 2236 then m.1 1032 (i + 172) else m.1 1032 i) := by rw [g2, ct_st_ne (by decide), pr_at]
          have er2 : hrow m2 i k = (if 172 * i + k < 2236 then m.1 1032 (172 * i + k + 172) else m.1 1032 (172 * i + k)) := congrFun er (172 * i + k)
          rw [er2, if_pos (by omega)]
          show _ = m.1 1032 (172 * (i + 1) + k)
          rw [show 172 * (i + 1) + k = 172 * i + k + 172 by omega]
        · unfold hNext; rw [if_neg hlt, if_pos rfl]
      | succ n ih =>
        intro j hj
        have nx := ih (j + 1) (by omega)
        unfold wb_X12_remember_11
        simp (disch := omega) only [nI_ofNat, cmp_le, nI_add, vp_nI, cl, fa_eq, ln1032]
        refine ⟨fun e => absurd e (by omega), fun _ => ⟨by omega, by omega, ?_⟩⟩
        rw [show 1023 + 9 = 1032 from rfl, pr_at, pr_stpr]
        refine cast (congrArg (fun r => wb_X12_remember_11 Q (n + 1) 1023 (nI (j + 1)) (pr m 1032 r)) ?_) nx
        funext i
        simp only [upd]
        by_cases e : i = j
        · subst e; rw [if_pos (by omega), if_pos rfl, if_neg (by omega)]
        · rw [if_neg e]
          by_cases e2 : i < j
          · rw [if_pos (by omega), if_pos e2]
          · rw [if_neg (by omega), if_neg e2]
    have := loop 2236 0 rfl
    have e0 : (fun i => if i < 0 then m.1 1032 (i + 172) else m.1 1032 i) = m.1 1032 := by funext i; rw [if_neg (by omega)]
    rw [e0, pr_id] at this
    exact ⟨2237, this⟩
