/-- the class's step -/
theorem c_advance {G : Prg} {b t T B : Nat} {N : Nat → Nat} {D : Nat → Nat → Nat} {v : Row} {ww : Int32} {Q : Int32 → ct_M → Prop} {m : ct_M} (hb : ct_K 10 b) (hb26 : 26 ≤ b) (hT : T ≤ 3) (ht : t < T) (hs : PSs G T N D) (hP : ∀ s, s < T → PG G m (11 + 5 * s) s (N s)) (hw : RW G m b v T) (hf : RWf G T N D B v) (hB : B < 2 ^ 29) (h0 : v (rAt t) = 0)
    (hq : ∀ m', Fr m m' b (b + 52) → RW G m' b (fStep G T v t ww).2.1 T → Q (fStep G T v t ww).1 m') : wp_X10_advance b (b + 7 + 15 * t) Q m := by
  obtain ⟨p, hm, hp⟩ := RWm_of hf ht h0
  have hst := hs t ht
  have n6 := hst.1
  have hwl : WL (b + 7 + 15 * t) := w_WL hb (by omega)
  have hpg : ct_pg (b + 7 + 15 * t) = 11 + 5 * t := cq_pg hb (by omega)
  have rk := hw.2.2.2 t ht
  have hpt := hm.2.2.2.2.1
  have e5 : m.1 (b + 7 + 15 * t) 5 = nI p := by rw [rk.1.2.2.2.2.1]; exact hpt.1
  have runs : ∀ u : Row, TS u t → u (rAt t) = 0 → ∃ r : Nat, r < 2 ∧ u (rAt t + 47) = nI (r + 1) := by
    intro u ⟨r, hr, hr2, hst⟩ hu
    have hr0 : 0 < r := by
      rcases hst with z | z | z | z
      · exact z.2
      · exact z.2
      · rw [hu] at z; exact absurd z.1 (by decide)
      · rw [hu] at z; exact absurd z (by decide)
    exact ⟨r - 1, by omega, by rw [show r - 1 + 1 = r by omega]; exact hr2⟩
  -- committing from a row u at the end
  have fin : ∀ (u : Row) (m1 : ct_M) (p1 : Nat), Fr m m1 b (b + 52) → RW G m1 b u T → RWm G T N D B u t p1 → p1 = N t → fStep G T v t ww = fCommit T u t ww → wb_X10_advance_46 Q b (b + 7 + 15 * t) 0 m1 := by
    intro u m1 p1 f1 r1 hm1 hp1 ef
    have e51 : m1.1 (b + 7 + 15 * t) 5 = nI p1 := by rw [(r1.2.2.2 t ht).1.2.2.2.2.1]; exact hm1.2.2.2.2.1.1
    have hPn : m1.1 (11 + 5 * t) 3 = nI (N t) := by rw [f1.2 _ (by omega)]; exact (hP t ht).1
    obtain ⟨r, hr, hr2⟩ := runs u hm1.2.2.2.2.2.2.1 hm1.2.2.2.2.2.2.2
    unfold wb_X10_advance_46
    refine ⟨fun e => absurd rfl e, fun _ => ?_⟩
    rw [e51, hpg]
    refine c_has hPn n6 (by omega) (fun e => absurd e (by omega)) (fun _ => ⟨fun e => absurd rfl e, fun _ => ?_⟩)
    refine c_commit (ww := ww) hb hT ht r1 (RWm_TR hs ht hm1) hm1.2.2.2.2.2.2.2 hr2 hr (fun m2 f2 r2 => ?_)
    rw [← ef] at r2 ⊢
    exact hq m2 (f1.tr f2) r2
  unfold wp_X10_advance
  rw [e5, hpg]
  refine c_has (hP t ht).1 n6 (by have := hpt.2.1; omega) (fun hpn => ⟨fun e => absurd e (by decide), fun _ => ?_⟩) (fun hpn => ⟨fun _ => ?_, fun e => absurd rfl e⟩)
  · have l1 := (p_len (t := t) (by omega)).1
    have l2 := (p_len (t := t) (by omega)).2.1
    obtain ⟨g1, g2, -⟩ := (hP t ht).2 p hpn
    rw [e5]
    simp (disch := omega) only [vp_nI, cl, l1, l2, g1, g2]
    refine ⟨by omega, by omega, ?_⟩
    refine c_execute (ww := ww) hb (by omega) hwl hpg (by omega) (hP t ht) (by omega) rk hw.1 (TokOK_of hs ht hm hpn hB) hst.2.2.1 (fun m1 f1 r1 => ?_)
    have f1' : Fr m m1 b (b + 52) := f1.mono (by omega) (by omega)
    have hTR := RWm_TR hs ht hm
    rcases step_cases (w := ww) hs ht hf hB h0 with ⟨u, p', hm', hag, ⟨hp', ⟨p0, -, -⟩, ef, -, e2⟩ | ⟨hp', ef, ⟨z, -⟩ | ⟨-, e2⟩⟩⟩ | ⟨-, ef, e2⟩
    · rw [e2] at r1 ⊢
      have rw1 : RW G m1 b u T := RW_thread hw ht hT f1 r1 (fun i hi => hag i (by omega)) hTR
      have e51 : m1.1 (b + 7 + 15 * t) 5 = nI p' := by rw [r1.1.2.2.2.2.1]; exact hm'.2.2.2.2.1.1
      have hPn : m1.1 (11 + 5 * t) 3 = nI (N t) := by rw [f1.2 _ (by omega)]; exact (hP t ht).1
      show wb_X10_advance_46 Q b (b + 7 + 15 * t) 0 m1
      unfold wb_X10_advance_46
      refine ⟨fun e => absurd rfl e, fun _ => ?_⟩
      rw [e51, hpg]
      refine c_has hPn n6 (by omega) (fun _ => ⟨fun _ => ?_, fun e => absurd e (by decide)⟩) (fun e => absurd hp' e)
      rw [ef] at hq
      exact hq m1 f1' rw1
    · omega
    · rw [e2] at r1 ⊢
      have rw1 : RW G m1 b u T := RW_thread hw ht hT f1 r1 (fun i hi => hag i (by omega)) hTR
      exact fin u m1 p' f1' rw1 hm' hp' ef
    · have hn : ¬ (fToken G v t ww).1 = 0 := by
        rcases e2 with e2 | e2 | e2 <;> rw [e2]
        · exact n3_0
        · exact n2_0
        · exact n4_0
      have hout : ∀ i, i < rAt t ∨ rAt t + 49 ≤ i → (fToken G v t ww).2.1 i = v i := by
        intro i hi
        rcases e2 with e2 | e2 | e2 <;> rw [e2]
        · exact upd_ne _ _ (by omega)
        · exact rRestart_out (by omega)
        · exact rStop_out (by omega)
      have rw1 : RW G m1 b (fToken G v t ww).2.1 T := RW_thread hw ht hT f1 r1 hout hTR
      rw [ef] at hq
      unfold wb_X10_advance_46
      exact ⟨fun _ => hq m1 f1' rw1, fun e => absurd e hn⟩
  · have hpe : p = N t := by have := hpt.2.1; omega
    rcases step_cases (w := ww) hs ht hf hB h0 with ⟨u, p', hm', hag, ⟨hp', ⟨p0, -, -⟩, ef, z, e2⟩ | ⟨hp', ef, ⟨z, eu⟩ | ⟨z, e2⟩⟩⟩ | ⟨z, ef, e2⟩
    · omega
    · subst eu
      exact fin u m p' Fr.rfl' hw hm' hp' ef
    · omega
    · omega
