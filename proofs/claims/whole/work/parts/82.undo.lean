/-! undo, save, restore -/
/-- a row copied into the state, place by place -/
def rInto (v u : Row) (j : Nat) : Row := fun i => if i < j then u i else v i
theorem rInto_step (v u : Row) (j : Nat) : upd (rInto v u j) j (u j) = rInto v u (j + 1) := by
  funext i
  simp only [upd, rInto]
  by_cases e : i = j
  · subst e; rw [if_pos rfl, if_pos (by omega)]
  · rw [if_neg e]
    by_cases e2 : i < j
    · rw [if_pos e2, if_pos (by omega)]
    · rw [if_neg e2, if_neg (by omega)]
theorem rInto_0 (v u : Row) : rInto v u 0 = v := by funext i; exact if_neg (by omega)
theorem r_undo {H : Nat} {Q : Int32 → ct_M → Prop} {m : ct_M} (hH : H < 14) (h3 : m.1 1023 13 = nI H) (h : Q (nI H) (pr m 1030 (rInto (m.1 1030) (hrow m H) 172))) : ∃ n, wb_X12_undo_27 Q n 1023 (0 : Int32) m := by
  have loop : ∀ (n j : Nat), j + n = 172 → wb_X12_undo_27 Q (n + 1) 1023 (nI j) (pr m 1030 (rInto (m.1 1030) (hrow m H) j)) := by
    intro n
    induction n with
    | zero =>
      intro j hj
      have : j = 172 := by omega
      subst this
      unfold wb_X12_undo_27
      rw [pr_ne _ _ (by decide : (1023 : Nat) ≠ 1030), h3]
      exact ⟨fun _ => h, fun e => absurd (by decide) e⟩
    | succ n ih =>
      intro j hj
      have nx := ih (j + 1) (by omega)
      unfold wb_X12_undo_27
      rw [pr_ne _ _ (by decide : (1023 : Nat) ≠ 1030), h3]
      simp (disch := omega) only [nI_ofNat, cmp_le, pk_mul, nI_add, vp_nI, cl, fa_eq, ln1030, ln1032]
      refine ⟨fun e => absurd e (by omega), fun _ => ⟨by omega, by omega, ?_⟩⟩
      rw [show 1023 + 9 = 1032 from rfl, show 1023 + 7 = 1030 from rfl, pr_ne _ _ (by decide : (1032 : Nat) ≠ 1030), pr_stpr]
      have : upd (rInto (m.1 1030) (hrow m H) j) j (m.1 1032 (172 * H + j)) = rInto (m.1 1030) (hrow m H) (j + 1) := rInto_step _ _ _
      rw [this]
      exact nx
  have := loop 172 0 rfl
  rw [rInto_0, pr_id] at this
  exact ⟨173, this⟩
theorem k_undo {B : Nat} {K : ct_M → Prop} {m : ct_M} (h : INV B m) (hK : ∀ m', INV (B + 400) m' → K m') : wp_X11_undo 0 (fun r m1 => wp_X12_undo 1023 (Same K r) m1) m := by
  have hk : ∀ x, K (ct_st m 1023 0 x) := fun x => hK _ ((INV_0 h x).mono (by omega))
  obtain ⟨hok, hx, hob, G, T, N, D, hcore, ⟨H, P, g1, g2, g3, g4, g5, g6⟩, hsl⟩ := h
  obtain ⟨c1, c2, c3, c4, c5, c6, c7, c8⟩ := id hcore
  have l : ct_ln (0 + 78 + 1) = 14 := by decide +kernel
  unfold wp_X11_undo wp_X12_undo
  have main : ∀ s0 : Int32, s0 = nI ((P + 13) % 14) → wb_X1_takeBack_18 (fun (r4 : Int32) (m3 : ct_M) => ((r4 = 0 → ∀ m1 : ct_M, m1 = ct_st m3 1023 0 (0 : Int32) → ((¬ (m1.1 1023 13) = 0 → ∀ m3 : ct_M, m3 = ct_st m1 1023 13 ((m1.1 1023 13) - (1 : Int32)) → (∃ n4, wb_X12_undo_27 (Same K (-3)) n4 1023 (0 : Int32) m3)) ∧ ((m1.1 1023 13) = 0 → Same K (-3) (-3) m1))) ∧ (¬ r4 = 0 → ∀ m1 : ct_M, m1 = ct_st m3 1023 0 (0 : Int32) → ((¬ (m1.1 1023 13) = 0 → ∀ m4 : ct_M, m4 = ct_st m1 1023 13 ((m1.1 1023 13) - (1 : Int32)) → (∃ n4, wb_X12_undo_27 (Same K (m3.1 (0 + 78) 1)) n4 1023 (0 : Int32) m4)) ∧ ((m1.1 1023 13) = 0 → Same K (m3.1 (0 + 78) 1) (-3) m1))))) (0 + 78) (0 + 26) s0 m := by
    intro s0 es
    subst es
    unfold wb_X1_takeBack_18
    rw [show m.1 (0 + 78) 1 = nI H from g3]
    refine ⟨fun e => ⟨fun _ => ?_, fun z => absurd rfl z⟩, fun e => ⟨fun _ => ?_, fun z => absurd ((cmp_lt (b := 14) (by omega) (by decide)).mpr (by omega)) z⟩⟩
    · have hH : H = 0 := by have := (cmp_lt (b := 1) (by omega) (by decide)).mp e; omega
      subst hH
      intro m1 e1
      subst e1
      rw [ct_st_eq, upd_ne _ _ (by decide), g5]
      exact ⟨fun z => absurd rfl z, fun _ => Same.mk (hk _)⟩
    · have hH : 0 < H := by
        refine Nat.pos_of_ne_zero fun z => e ?_
        rw [z]; decide
      have el : ct_elW (0 + 78 + 1) ((P + 13) % 14) = 80 + 52 * ((P + 13) % 14) := by unfold ct_elW; rw [if_neg (by omega)]
      simp (disch := omega) only [vp_nI, cl, l, el]
      refine ⟨by omega, ?_⟩
      refine c_wcopy K_26 (K_ring (by omega)) (hok _ (K_ring (by omega))) (by omega) (fun m1 f1 cp ok1 => ?_)
      intro m2 e2 m3 e3
      have e78 : m1.1 78 = m.1 78 := f1.2 _ (by omega)
      have q3 : m3.1 78 1 = nI (H - 1) := by
        subst e3 e2
        rw [show 0 + 78 = 78 from rfl, ct_st_eq, upd_same, ct_st_eq, upd_ne _ _ (by decide), e78, g3]
        have := nI_pred (H - 1)
        rw [show H - 1 + 1 = H by omega] at this
        exact this
      have q32 : m3.1 78 2 = nI ((P + 13) % 14) := by subst e3 e2; rw [show 0 + 78 = 78 from rfl, ct_st_eq, upd_ne _ _ (by decide), ct_st_eq, upd_same]
      have o3 : ∀ q, q < 26 ∨ 78 < q → m3.1 q = m.1 q := fun q hq => by subst e3 e2; rw [ct_st_ne (by omega), ct_st_ne (by omega), f1.2 q (by omega)]
      have p3 : ∀ q, q ≠ 78 → m3.1 q = m1.1 q := fun q hq => by subst e3 e2; rw [ct_st_ne hq, ct_st_ne hq]
      refine ⟨fun z => absurd z (by decide), fun _ => ?_⟩
      intro m4 e4
      rw [show m3.1 (0 + 78) 1 = nI (H - 1) from q3]
      have q4 : m4.1 1023 13 = nI H := by subst e4; rw [ct_st_eq, upd_ne _ _ (by decide), o3 _ (by omega)]; exact g5
      rw [q4]
      refine ⟨fun _ => ?_, fun z => absurd z (nI_ne0 hH (by omega))⟩
      intro m5 e5
      have q5 : m5.1 1023 13 = nI (H - 1) := by
        subst e5; rw [ct_st_eq, upd_same]
        have := nI_pred (H - 1)
        rw [show H - 1 + 1 = H by omega] at this
        exact this
      have o5 : ∀ q, q ≠ 1023 → m5.1 q = m3.1 q := fun q hq => by subst e5 e4; rw [ct_st_ne hq, ct_st_ne hq]
      have s5 : ∀ j, j ≠ 0 → j ≠ 13 → m5.1 1023 j = m.1 1023 j := fun j j1 j2 => by subst e5 e4; rw [ct_st_eq, upd_ne _ _ j2, ct_st_eq, upd_ne _ _ j1, o3 _ (by omega)]
      refine r_undo (H := H - 1) (by omega) q5 (Same.mk (hK _ (INV.mono (B := B) ?_ (by omega))))
      have eh : hrow m5 (H - 1) = hrow m (H - 1) := by unfold hrow; rw [o5 _ (by decide), o3 _ (by omega)]
      rw [eh]
      generalize hv' : rInto (m5.1 1030) (hrow m (H - 1)) 172 = v'
      have ev : ∀ i, i < 172 → v' i = hrow m (H - 1) i := fun i hi => by rw [← hv']; exact if_pos hi
      obtain ⟨r1, r2⟩ := g6 (H - 1) (by omega)
      rw [show (P + 14 - H + (H - 1)) % 14 = (P + 13) % 14 by omega] at r1
      have tr := RWf_TR c5 r2
      have rw1 : RW G m1 26 v' T := RW_row (cp G _ T c2 tr r1) c2 tr ev
      have wf' : RWf G T N D B v' := RWf_row c5 c2 r2 ev
      have oM : ∀ q, q ≠ 1030 → (pr m5 1030 v').1 q = m5.1 q := fun q hq => pr_ne _ _ hq
      have low : ∀ q, q < 1023 → q ≠ 78 → (pr m5 1030 v').1 q = m1.1 q := fun q hq h8 => by rw [oM q (by omega), o5 q (by omega), p3 q h8]
      refine INV_new (B := B) (by omega) hx hob hcore hsl (fun q hq => ?_) (fun j hj => ?_) (fun q hq => ?_) ?_ ?_ (by rw [pr_at]; exact wf') ⟨H - 1, (P + 13) % 14, by omega, by omega, ?_, ?_, ?_, fun i hi => ?_⟩
      · rw [oM q (by omega), o5 q (by omega), o3 q (by omega)]
      · rw [oM _ (by decide)]; exact s5 j (by omega) (by omega)
      · rw [oM q (by omega), o5 q (by omega), o3 q (by omega)]
      · exact (hok.keep K_26 f1).same fun q hq => low q (kd4_low hq) (by rintro rfl; exact absurd hq (by decide +kernel))
      · rw [pr_at]
        exact RW_mem rw1 c2 (RWf_TR c5 wf') fun q q1 q2 => low q (by omega) (by omega)
      · rw [oM _ (by decide), o5 _ (by decide)]; exact q3
      · rw [oM _ (by decide), o5 _ (by decide)]; exact q32
      · rw [oM _ (by decide)]; exact q5
      · obtain ⟨a1, a2⟩ := g6 i (by omega)
        have e : hrow (pr m5 1030 v') i = hrow m i := by unfold hrow; rw [oM _ (by decide), o5 _ (by decide), o3 _ (by omega)]
        rw [e, show ((P + 13) % 14 + 14 - (H - 1) + i) % 14 = (P + 14 - H + i) % 14 by omega]
        exact ⟨RW_mem a1 c2 (RWf_TR c5 a2) fun q q1 q2 => by rw [oM q (by omega), o5 q (by omega), o3 q (by omega)], a2⟩
  unfold wp_X1_takeBack
  rw [show m.1 (0 + 78) 2 = nI P from g4]
  refine ⟨fun e => main _ ?_, fun e => main _ ?_⟩
  · have : P = 0 := by have := (cmp_le (b := 0) (by omega) (by decide)).mp e; omega
    subst this; rfl
  · have hP : 0 < P := by
      refine Nat.pos_of_ne_zero fun z => e ?_
      rw [z]; decide
    have := nI_pred (P - 1)
    rw [show P - 1 + 1 = P by omega] at this
    rw [show (P + 13) % 14 = P - 1 by omega]
    exact this
/-- how many threads are done -/
def fDone (v : Row) : Nat → Nat
  | 0 => 0
  | t + 1 => if v (rAt t) = 2 then fDone v t + 1 else fDone v t
theorem fDone_le (v : Row) (T : Nat) : fDone v T ≤ T := by
  induction T with
  | zero => exact Nat.le_refl _
  | succ T ih => unfold fDone; split <;> omega
theorem c_done {G : Prg} {T b : Nat} {v : Row} {Q : Int32 → ct_M → Prop} {m : ct_M} (hb : ct_K 10 b) (hT : T ≤ 3) (hw : RW G m b v T) (h : Q (nI (fDone v T)) m) : wp_X10_threadsDone b Q m := by
  obtain ⟨l1, l2, l3, l4, l5, l6⟩ := w_len hb
  have loop : ∀ (n j : Nat), j + n = T → wb_X10_threadsDone_4 Q (n + 1) b (nI (fDone v j)) (nI j) m := by
    intro n
    induction n with
    | zero =>
      intro j hj
      have : j = T := by omega
      subst this
      unfold wb_X10_threadsDone_4
      rw [hw.2.1]
      exact ⟨fun _ => h, fun e => absurd ((cmp_le (by omega) (by omega)).mpr (Nat.le_refl _)) e⟩
    | succ n ih =>
      intro j hj
      have nx := ih (j + 1) (by omega)
      have hd := fDone_le v j
      have e1 : m.1 (b + 3 + 4 + 15 * j) 1 = v (rAt j) := (hw.2.2.2 j (by omega)).1.1
      unfold wb_X10_threadsDone_4
      rw [hw.2.1]
      simp (disch := omega) only [nI_ofNat 3, cmp_le, vp_nI, cl, l3, e1]
      refine ⟨fun e => absurd e (by omega), fun _ => ⟨fun e => absurd e (by omega), fun _ => ⟨by omega, fun e => ?_, fun e => ?_⟩⟩⟩
      · have : fDone v (j + 1) = fDone v j := if_neg e
        unfold wb_X10_threadsDone_33
        intro x hx
        rw [hx, nI_ofNat 1, nI_add, ← this]; exact nx
      · have : fDone v (j + 1) = fDone v j + 1 := if_pos e
        intro y hy
        unfold wb_X10_threadsDone_33
        intro x hx
        rw [hx, hy, nI_ofNat 1, nI_add, nI_add, ← this]; exact nx
  exact ⟨T + 1, loop T 0 (by omega)⟩
theorem r_done {T : Nat} {v : Row} {Q : Int32 → ct_M → Prop} {m : ct_M} (hT : T ≤ 3) (hth : m.1 1023 4 = nI T) (hv : ∀ i, i < 172 → m.1 1030 i = v i) (h : Q (nI (fDone v T)) m) : wp_X12_doneThreads 1023 Q m := by
  have loop : ∀ (n j : Nat), j + n = T → wb_X12_doneThreads_4 Q (n + 1) 1023 (nI (fDone v j)) (nI j) m := by
    intro n
    induction n with
    | zero =>
      intro j hj
      have : j = T := by omega
      subst this
      unfold wb_X12_doneThreads_4
      rw [hth]
      exact ⟨fun _ => h, fun e => absurd ((cmp_le (by omega) (by omega)).mpr (Nat.le_refl _)) e⟩
    | succ n ih =>
      intro j hj
      have nx := ih (j + 1) (by omega)
      have hd := fDone_le v j
      have e1 : m.1 (1023 + 7) (25 + 49 * j + 0) = v (rAt j) := hv (rAt j) (by unfold rAt; omega)
      unfold wb_X12_doneThreads_4
      rw [hth]
      refine ⟨fun e => absurd ((cmp_le (by omega) (by omega)).mp e) (by omega), fun _ => r_at' ?_⟩
      simp (disch := omega) only [nI_ofNat 0, nI_add, vp_nI, cl, ln1030, e1]
      refine ⟨by omega, fun e => ?_, fun e => ?_⟩
      · have : fDone v (j + 1) = fDone v j := if_neg e
        unfold wb_X12_doneThreads_33
        intro y hy x hx
        rw [hx, hy, nI_ofNat 1, nI_add, nI_add, Nat.add_zero, ← this]; exact nx
      · have : fDone v (j + 1) = fDone v j + 1 := if_pos e
        unfold wb_X12_doneThreads_33
        intro y hy x hx
        rw [hx, hy, nI_ofNat 1, nI_add, nI_add, ← this]; exact nx
  exact ⟨T + 1, loop T 0 (by omega)⟩
