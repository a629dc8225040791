/-! run, setCell -/
theorem kd4_low {q : Nat} (hq : ct_kd q = 4) : q < 1023 := by
  refine Nat.lt_of_not_le fun z => ?_
  have h1 := ct_all (fun a => !(ct_kd a == 4) || decide (a < 1023)) (by decide +kernel) (a := q) (by
    refine Nat.lt_of_not_le fun z2 => ?_
    have : ct_kd q = 99 := by
      unfold ct_kd ct_pick
      rw [if_neg (by omega), if_neg (by omega), if_neg (by omega), if_neg (by omega), if_neg (by omega), if_neg (by omega)]
      rw [List.getD_eq_getElem?_getD, List.getElem?_eq_none (by simp; unfold ct_NN at z2; omega)]; rfl
    rw [this] at hq
    exact absurd hq (by decide))
  simp only [hq, beq_self_eq_true, Bool.not_true, Bool.false_or, decide_eq_true_eq] at h1
  omega
theorem op_finish {B B' : Nat} {G : Prg} {T H P' : Nat} {N : Nat → Nat} {D : Nat → Nat → Nat} {m m1 m2 M : ct_M} {v' : Row} (hB : B ≤ B') (hx : IText m) (hob : IObs m) (hcore : ICore G T N D B m) (hsl : ISlot G T N D B m) (hH : H ≤ 14) (hrf : ∀ i, i < H → RWf G T N D B (hrow m i))
    (o1 : ∀ q, q < 78 ∨ 808 ≤ q → m1.1 q = m.1 q) (ch1 : CHist G T m1 (hLen H) P' (hNext H (hrow m) (m.1 1030))) (f2 : ∀ q, q < 26 ∨ 78 ≤ q → m2.1 q = m1.1 q) (ok2 : OkAll m2) (rw2 : RW G m2 26 v' T) (wf' : RWf G T N D B' v')
    (lowM : ∀ q, q < 1023 → M.1 q = m2.1 q) (e30M : M.1 1030 = v') (s4 : ∀ j, (j = 2 ∨ j = 4 ∨ j = 16) → M.1 1023 j = m.1 1023 j) (l4 : M.1 1023 13 = nI (hLen H)) (up4 : ∀ q, ((1024 ≤ q ∧ q ≤ 1029) ∨ (1033 ≤ q ∧ q ≤ 1036)) → M.1 q = m.1 q) (r4 : ∀ i, i < hLen H → ∀ k, k < 172 → hrow M i k = hNext H (hrow m) (m.1 1030) i k) : INV B' M := by
  obtain ⟨c1, c2, c3, c4, c5, c6, c7, c8⟩ := id hcore
  refine INV_new (B := B) hB hx hob hcore hsl (fun q hq => ?_) s4 up4 ?_ ?_ (by rw [e30M]; exact wf') ?_
  · rw [lowM q (by omega), f2 q (by omega), o1 q (by omega)]
  · exact ok2.same fun q hq => lowM q (kd4_low hq)
  · rw [e30M]
    exact RW_mem rw2 c2 (RWf_TR c5 wf') fun q q1 q2 => lowM q (by omega)
  · refine IHist_next (P' := P') (v := m.1 1030) (hs := hrow m) c2 c5 hB hH c8 hrf ?_ l4 r4
    exact CHist_mem ch1 c2 (hNext_TR c5 hH c8 hrf) fun q q1 q2 => by rw [lowM q (by omega), f2 q (by omega)]
theorem step_state {G : Prg} {T B t : Nat} {N : Nat → Nat} {D : Nat → Nat → Nat} {v : Row} {w : Int32} (hs : PSs G T N D) (ht : t < T) (h : RWf G T N D B v) (hB : B < 2 ^ 29) (h0 : v (rAt t) = 0) (hr : (fStep G T v t w).1 = 0 ∨ (fStep G T v t w).1 = 2) : (fStep G T v t w).2.1 (rAt t) = 0 := by
  have hre : ∀ u : Row, rRestart u t (rAt t) = 0 := fun u => by
    rw [show rAt t = rAt t + 0 from rfl, rRestart_spec (by omega), if_neg (by omega), if_neg (by omega)]
  rcases step_cases (w := w) hs ht h hB h0 with ⟨u, p, hm, hag, ⟨hp, -, e, -⟩ | ⟨hp, e, -⟩⟩ | ⟨-, ef, e⟩
  · rw [e]; exact hm.2.2.2.2.2.2.2
  · rw [e] at hr ⊢
    unfold fCommit at hr ⊢
    by_cases hv : rValid u t
    · rw [cif_t hv] at hr ⊢
      by_cases hok : rInvOK u t (u 12).toNatClampNeg
      · rw [cif_t hok] at hr
        rcases hr with z | z
        · exact absurd z (by decide : ¬ (1 : Int32) = 0)
        · exact absurd z (by decide : ¬ (1 : Int32) = 2)
      · rw [cif_f hok] at hr
        rcases hr with z | z
        · exact absurd z n4_0
        · exact absurd z (by decide : ¬ (4 : Int32) = 2)
    · rw [cif_f hv]; exact hre u
  · rw [ef] at hr ⊢
    rcases e with e | e | e <;> rw [e] at hr ⊢
    · rcases hr with z | z
      · exact absurd z n3_0
      · exact absurd z (by decide : ¬ (3 : Int32) = 2)
    · exact hre v
    · rcases hr with z | z
      · exact absurd z n4_0
      · exact absurd z (by decide : ¬ (4 : Int32) = 2)
/-- running: steps, row and written bits in the end -/
noncomputable def fRun (G : Prg) (T t : Nat) : Nat → Nat → Int32 → Row → Int32 → Nat × Row × Int32
  | 0, s, _, v, w => (s, v, w)
  | n + 1, s, r, v, w => cif (r = 0 ∨ r = 2) (fRun G T t n (s + 1) (fStep G T v t w).1 (fStep G T v t w).2.1 (fStep G T v t w).2.2) (s, v, w)
theorem fRun_wf {G : Prg} {T t B : Nat} {N : Nat → Nat} {D : Nat → Nat → Nat} (hs : PSs G T N D) (ht : t < T) : ∀ (n s : Nat) (r : Int32) (v : Row) (w : Int32), s + n = 60 → B + 6 * 60 < 2 ^ 29 → RWf G T N D (B + 6 * s) v → ((r = 0 ∨ r = 2) → v (rAt t) = 0) → RWf G T N D (B + 6 * 60) (fRun G T t n s r v w).2.1 := by
  intro n
  induction n with
  | zero => intro s r v w hsn hB h _; exact h.mono (by omega)
  | succ n ih =>
    intro s r v w hsn hB h h0
    unfold fRun
    by_cases c : r = 0 ∨ r = 2
    · rw [cif_t c]
      exact ih (s + 1) _ _ _ (by omega) hB ((step_wf hs ht h (by omega) (h0 c)).mono (by omega)) (step_state hs ht h (by omega) (h0 c))
    · rw [cif_f c]; exact h.mono (by omega)
theorem c_run {G : Prg} {T t B : Nat} {N : Nat → Nat} {D : Nat → Nat → Nat} {Q : Int32 → ct_M → Prop} (hT : T ≤ 3) (ht : t < T) (hs : PSs G T N D) : ∀ (n s : Nat) (r : Int32) (v : Row) (w : Int32) (m : ct_M), s + n = 60 → B + 6 * 60 < 2 ^ 29 → (∀ s, s < T → PG G m (11 + 5 * s) s (N s)) → RW G m 26 v T → RWf G T N D (B + 6 * s) v → ((r = 0 ∨ r = 2) → v (rAt t) = 0) → (∀ m', Fr m m' 26 (26 + 52) → RW G m' 26 (fRun G T t n s r v w).2.1 T → Q (nI (fRun G T t n s r v w).1) m') → wb_X11_run_46 Q (n + 1) 0 (nI t) (nI s) r m := by
  intro n
  induction n with
  | zero =>
    intro s r v w m hsn hB hP hw hf h0 hq
    have : s = 60 := by omega
    subst this
    unfold wb_X11_run_46
    exact ⟨fun _ => hq m Fr.rfl' hw, fun e => absurd (by decide) e⟩
  | succ n ih =>
    intro s r v w m hsn hB hP hw hf h0 hq
    have go : (r = 0 ∨ r = 2) → wb_X11_run_61 (wb_X11_run_46 Q (n + 1)) Q 0 (nI t) (nI s) m := by
      intro c
      unfold wb_X11_run_61
      simp (disch := omega) only [vp_nI, cl, ln29]
      refine ⟨by omega, ?_⟩
      rw [show 0 + 26 + 3 + 4 + 15 * t = 26 + 7 + 15 * t by omega]
      refine c_advance (b := 26) (ww := w) K_26 (by omega) hT ht hs hP hw hf (by omega) (h0 c) (fun m1 f1 rw1 => ?_)
      intro x hx
      rw [hx, nI_ofNat 1, nI_add]
      have e : fRun G T t (n + 1) s r v w = fRun G T t n (s + 1) (fStep G T v t w).1 (fStep G T v t w).2.1 (fStep G T v t w).2.2 := cif_t c
      rw [e] at hq
      refine ih (s + 1) _ _ (fStep G T v t w).2.2 m1 (by omega) hB (fun s hs2 => ?_) rw1 ((step_wf hs ht hf (by omega) (h0 c)).mono (by omega)) (step_state hs ht hf (by omega) (h0 c)) (fun m2 f2 rw2 => hq m2 (f1.tr f2) rw2)
      obtain ⟨g1, g2⟩ := hP s hs2
      refine ⟨by rw [f1.2 _ (by omega)]; exact g1, fun k hk => ?_⟩
      rw [f1.2 (11 + 5 * s + 1) (by omega), f1.2 (11 + 5 * s + 2) (by omega), f1.2 (11 + 5 * s + 3) (by omega)]
      exact g2 k hk
    have stop : ¬ (r = 0 ∨ r = 2) → Q (nI s) m := by
      intro c
      have e : fRun G T t (n + 1) s r v w = (s, v, w) := cif_f c
      rw [e] at hq
      exact hq m Fr.rfl' hw
    unfold wb_X11_run_46
    simp (disch := omega) only [nI_ofNat 60, cmp_le]
    exact ⟨fun e => absurd e (by omega), fun _ => ⟨fun e => go (Or.inl e), fun e => ⟨fun e2 => stop (fun z => z.elim e e2), fun e2 => go (Or.inr e2)⟩⟩⟩
def refM (m : ct_M) (w : Int32) (v : Row) : ct_M := pr (ct_st m 1023 29 w) 1030 v
theorem refM_refM {m : ct_M} {w w' : Int32} {v v' : Row} : pr (ct_st (refM m w v) 1023 29 w') 1030 v' = refM m w' v' := by
  unfold refM
  rw [pr_st, pr_ne _ _ (by decide), pr_st, pr_at, pr_comm _ _ _ (by decide : (1030 : Nat) ≠ 1023), pr_pr, pr_pr, pr_st]
  congr 2
  funext i
  simp only [upd]
  split <;> rfl
theorem refM_self {m : ct_M} : refM m (m.1 1023 29) (m.1 1030) = m := by
  unfold refM
  rw [ct_st_self, pr_id]
theorem refM_ne {m : ct_M} {w : Int32} {v : Row} {q : Nat} (h : q ≠ 1023) (h2 : q ≠ 1030) : (refM m w v).1 q = m.1 q := by
  unfold refM; rw [pr_ne _ _ h2, ct_st_ne h]
theorem refM_30 {m : ct_M} {w : Int32} {v : Row} : (refM m w v).1 1030 = v := pr_at _ _ _
theorem refM_23 {m : ct_M} {w : Int32} {v : Row} {j : Nat} (h : j ≠ 29) : (refM m w v).1 1023 j = m.1 1023 j := by
  unfold refM; rw [pr_ne _ _ (by decide), ct_st_eq, upd_ne _ _ h]
theorem refM_w {m : ct_M} {w : Int32} {v : Row} : (refM m w v).1 1023 29 = w := by
  unfold refM; rw [pr_ne _ _ (by decide), ct_st_eq, upd_same]
theorem r_run {G : Prg} {T t B : Nat} {N : Nat → Nat} {D : Nat → Nat → Nat} {Q : Int32 → ct_M → Prop} {m : ct_M} (hT : T ≤ 3) (ht : t < T) (hs : PSs G T N D) (hG : HasP G m) (hth : m.1 1023 4 = nI T) : ∀ (n s : Nat) (r : Int32) (v : Row) (w : Int32), s + n = 60 → B + 6 * 60 < 2 ^ 29 → RWf G T N D (B + 6 * s) v → ((r = 0 ∨ r = 2) → v (rAt t) = 0) → Q (nI (fRun G T t n s r v w).1) (refM m (fRun G T t n s r v w).2.2 (fRun G T t n s r v w).2.1) → wb_X12_run_40 Q (n + 1) 1023 (nI t) (nI s) r (refM m w v) := by
  intro n
  induction n with
  | zero =>
    intro s r v w hsn hB hf h0 hq
    have : s = 60 := by omega
    subst this
    unfold wb_X12_run_40
    exact ⟨fun _ => hq, fun e => absurd (by decide) e⟩
  | succ n ih =>
    intro s r v w hsn hB hf h0 hq
    have go : (r = 0 ∨ r = 2) → wb_X12_run_55 (wb_X12_run_40 Q (n + 1)) Q 1023 (nI t) (nI s) (refM m w v) := by
      intro c
      unfold wb_X12_run_55
      refine r_step (A := 1030) (G := G) (T := T) (B := B + 6 * s) (N := N) (D := D) (by decide) (by decide) (fun k k1 k2 => by rw [refM_ne (by omega) (by omega)]; exact hG k k1 k2) hT (by rw [refM_23 (by decide)]; exact hth) hs ht (by rw [refM_30]; exact hf) (by omega) (by rw [refM_30]; exact h0 c) ?_
      rw [refM_30, refM_w, refM_refM]
      intro x hx
      rw [hx, nI_ofNat 1, nI_add]
      have e : fRun G T t (n + 1) s r v w = fRun G T t n (s + 1) (fStep G T v t w).1 (fStep G T v t w).2.1 (fStep G T v t w).2.2 := cif_t c
      rw [e] at hq
      exact ih (s + 1) _ _ _ (by omega) hB ((step_wf hs ht hf (by omega) (h0 c)).mono (by omega)) (step_state hs ht hf (by omega) (h0 c)) hq
    have stop : ¬ (r = 0 ∨ r = 2) → Q (nI s) (refM m w v) := by
      intro c
      have e : fRun G T t (n + 1) s r v w = (s, v, w) := cif_f c
      rw [e] at hq
      exact hq
    unfold wb_X12_run_40
    simp (disch := omega) only [nI_ofNat 60, cmp_le]
    exact ⟨fun e => absurd e (by omega), fun _ => ⟨fun e => go (Or.inl e), fun e => ⟨fun e2 => stop (fun z => z.elim e e2), fun e2 => go (Or.inr e2)⟩⟩⟩
theorem k_run {B : Nat} {K : ct_M → Prop} {X : Prop} {p : Int32} {m : ct_M} (h : INV B m) (hB : B < 2 ^ 28) (hX : X) (hK : ∀ m', INV (B + 400) m' → K m') : wp_X11_run 0 p (fun r m1 => X ∧ wp_X12_run 1023 p (Same K r) m1) m := by
  have hk : ∀ x, K (ct_st m 1023 0 x) := fun x => hK _ ((INV_0 h x).mono (by omega))
  obtain ⟨hok, hx, hob, G, T, N, D, hcore, hh, hsl⟩ := h
  obtain ⟨c1, c2, c3, c4, c5, c6, c7, c8⟩ := id hcore
  obtain ⟨H, P, ch, h13, hrf⟩ := IHist_C hh
  have c4' : (ct_st m 1023 0 (0 : Int32)).1 1023 4 = nI T := by rw [ct_st_eq, upd_ne _ _ (by decide)]; exact c4
  have tr8 := RWf_TR c5 c8
  unfold wp_X11_run wp_X12_run
  refine c_hasThread c2 c7.2.1 (fun t ht e => ⟨fun _ => ?_, fun z => absurd z (by decide)⟩) (fun e => ⟨fun z => absurd rfl z, fun _ => ⟨hX, ?_⟩⟩)
  · subst e
    have hr : rAt t = 25 + 49 * t := rfl
    have e0 : m.1 (26 + 7 + 15 * t) 1 = m.1 1030 (rAt t) := (c7.2.2.2 t ht).1.1
    simp (disch := omega) only [vp_nI, cl, ln29]
    rw [show 0 + 26 + 3 + 4 + 15 * t = 26 + 7 + 15 * t by omega, e0]
    refine ⟨by omega, fun z => ?_, fun z => ⟨hX, ?_⟩⟩
    · refine c_remember c2 hok ch (fun i hi => RWf_TR c5 (hrf i hi)) tr8 c7 (fun m1 f1 o1 ok1 rw1 ⟨P', ch1⟩ => ⟨61, ?_⟩)
      have pg1 : ∀ s, s < T → PG G m1 (11 + 5 * s) s (N s) := fun s hs => by
        obtain ⟨g1, g2⟩ := c6 s hs
        refine ⟨by rw [o1 _ (by omega)]; exact g1, fun k hk => ?_⟩
        rw [o1 (11 + 5 * s + 1) (by omega), o1 (11 + 5 * s + 2) (by omega), o1 (11 + 5 * s + 3) (by omega)]
        exact g2 k hk
      refine c_run (B := B) c2 ht c5 60 0 0 (m.1 1030) (m.1 1023 29) m1 rfl (by omega) pg1 rw1 c8 (fun _ => z) (fun m2 f2 rw2 => ⟨hX, ?_⟩)
      intro m3 g3
      have e3 : ∀ q, q ≠ 1023 → m3.1 q = m2.1 q := fun q hq => by rw [g3]; exact ct_st_ne hq
      have e33 : ∀ j, j ≠ 0 → m3.1 1023 j = m2.1 1023 j := fun j hj => by rw [g3, ct_st_eq, upd_ne _ _ hj]
      have up2 : ∀ q, 1023 ≤ q → m2.1 q = m.1 q := fun q hq => by rw [f2.2 _ (by omega), o1 _ (by omega)]
      refine r_noThread c2 c1 (by rw [e33 4 (by decide), up2 _ (by omega)]; exact c4) (fun t' ht' e' => ⟨fun _ => r_at' ?_, fun z => absurd rfl z⟩) (fun e => absurd rfl (e t ht))
      simp (disch := omega) only [vp_nI, cl, ln1030, nI_ofNat, nI_add]
      have e30 : m3.1 (1023 + 7) = m.1 1030 := by rw [e3 _ (by decide), up2 _ (by omega)]
      refine ⟨by omega, fun _ => ?_, fun z2 => absurd (by rw [e30]; exact z) z2⟩
      refine r_remember (H := H) ch.1 (by rw [e33 13 (by decide), up2 _ (by omega)]; exact h13) (fun m4 f4 o4 o44 l4 r4 => ⟨61, ?_⟩)
      have e40 : m4.1 1030 = m.1 1030 := by rw [o4 _ (by decide) (by decide), ← e30]
      have up4 : ∀ q, 1023 < q → q ≠ 1032 → m4.1 q = m.1 q := fun q q1 q2 => by rw [o4 q (by omega) q2, e3 q (by omega), up2 q (by omega)]
      have s4 : ∀ j, j ≠ 0 → j ≠ 13 → m4.1 1023 j = m.1 1023 j := fun j j1 j2 => by rw [o44 j j2, e33 j j1, up2 _ (by omega)]
      have rr := r_run (B := B) (Q := Same K (nI (fRun G T t 60 0 0 (m.1 1030) (m.1 1023 29)).1)) (m := m4) c2 ht c5 (fun k k1 k2 => by rw [up4 k (by omega) (by omega)]; exact c3 k k1 k2) (by rw [s4 4 (by decide) (by decide)]; exact c4) 60 0 0 (m.1 1030) (m.1 1023 29) rfl (by omega) c8 (fun _ => z) ?_
      · have em : refM m4 (m.1 1023 29) (m.1 1030) = m4 := by
          rw [← e40, ← s4 29 (by decide) (by decide)]; exact refM_self
        rw [em] at rr
        exact rr
      · refine Same.mk (hK _ (INV.mono (B := B + 6 * 60) ?_ (by omega)))
        have wf' := fRun_wf (B := B) c5 ht 60 0 0 (m.1 1030) (m.1 1023 29) rfl (by omega) c8 (fun _ => z)
        refine op_finish (m1 := m1) (m2 := m2) (H := H) (P' := P') (by omega) hx hob hcore hsl ch.1 hrf o1 ch1 (fun q hq => f2.2 q (by omega)) (ok1.keep K_26 f2) rw2 wf' (fun q hq => ?_) refM_30 (fun j hj => ?_) ?_ (fun q hq => ?_) (fun i hi k hk => ?_)
        · rw [refM_ne (by omega) (by omega), o4 q (by omega) (by omega), e3 q (by omega)]
        · rw [refM_23 (by omega)]; exact s4 j (by omega) (by omega)
        · rw [refM_23 (by omega)]; exact l4
        · rw [refM_ne (by omega) (by omega)]; exact up4 q (by omega) (by omega)
        · have e1 : hrow (refM m4 (fRun G T t 60 0 0 (m.1 1030) (m.1 1023 29)).2.2 (fRun G T t 60 0 0 (m.1 1030) (m.1 1023 29)).2.1) i k = hrow m4 i k := by unfold hrow; rw [refM_ne (by decide) (by decide)]
          have e2 : hrow m3 = hrow m := by unfold hrow; rw [e3 1032 (by decide), up2 1032 (by omega)]
          rw [e1, r4 i hi k hk, e2, show m3.1 1030 = m.1 1030 from e30]
    · intro m1 g1
      subst g1
      refine r_noThread c2 c1 c4' (fun t' ht' e' => ⟨fun _ => r_at' ?_, fun z => absurd rfl z⟩) (fun e => absurd rfl (e t ht))
      simp (disch := omega) only [vp_nI, cl, ln1030, nI_ofNat, nI_add]
      rw [ct_st_ne (by decide)]
      exact ⟨by omega, fun z2 => absurd z2 z, fun _ => Same.mk (hk _)⟩
  · intro m1 g1
    subst g1
    exact r_noThread c2 c1 c4' (fun t ht e' => absurd e' (e t ht)) (fun _ => ⟨fun z => absurd z (by decide), fun _ => Same.mk (hk _)⟩)
