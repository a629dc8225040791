/-! the class: committing, advancing -/
theorem RW_thread {G : Prg} {m m' : ct_M} {b t T : Nat} {v v' : Row} (h : RW G m b v T) (ht : t < T) (hT : T ≤ 3) (hf : Fr m m' (b + 7 + 15 * t) (b + 7 + 15 * t + 15)) (hk : Rk G m' (b + 7 + 15 * t) v' t) (hv : ∀ i, i < rAt t ∨ rAt t + 49 ≤ i → v' i = v i) (hr : ∀ s, s < T → TR v s) : RW G m' b v' T := by
  have hrt : rAt t = 25 + 49 * t := rfl
  refine ⟨⟨fun c hc => ?_, fun c hc => ?_⟩, ?_, ?_, fun s hs => ?_⟩
  · rw [hf.2 _ (by omega), hv _ (by omega)]; exact h.1.1 c hc
  · rw [hf.2 _ (by omega), hv _ (by omega)]; exact h.1.2 c hc
  · rw [hf.2 _ (by omega)]; exact h.2.1
  · exact RWi_move h.2.2.1 (by rw [hf.2 _ (by omega)]) (fun q q1 q2 => hf.2 _ (by omega)) (fun i i1 i2 => hv _ (by omega))
  · by_cases e : s = t
    · subst e; exact hk
    · exact (h.2.2.2 s hs).move (fun q q1 q2 => hf.2 _ (by omega)) (fun i i1 i2 => hv _ (by unfold rAt at i1 i2 ⊢; omega)) (hr s hs).2
theorem rSt_own {v : Row} {t T j k : Nat} (hj : j ≤ 6) (hk : k < 49) (h : v (rAt t) = 0) : rSt v t T j (rAt t + k) = v (rAt t + k) := by
  have hr : rAt t = 25 + 49 * t := rfl
  rw [rSt_eq hj, if_neg (by omega)]
  exact rGrows_state hj hk (by rw [h]; decide)
theorem c_commit {G : Prg} {b t T r : Nat} {v : Row} {ww : Int32} {Q : Int32 → ct_M → Prop} {m : ct_M} (hb : ct_K 10 b) (hT : T ≤ 3) (ht : t < T) (hw : RW G m b v T) (hr : ∀ s, s < T → TR v s) (h0 : v (rAt t) = 0) (hrun : v (rAt t + 47) = nI (r + 1)) (hr3 : r < 2)
    (hq : ∀ m', Fr m m' b (b + 52) → RW G m' b (fCommit T v t ww).2.1 T → Q (fCommit T v t ww).1 m') : wp_X10_commit b (b + 7 + 15 * t) Q m := by
  have hrt : rAt t = 25 + 49 * t := rfl
  have hwl : WL (b + 7 + 15 * t) := w_WL hb (by omega)
  obtain ⟨l1, l2, l3, l4, l5, l6⟩ := w_len hb
  have rk := hw.2.2.2 t ht
  obtain ⟨n, hn⟩ := RW_inv hw
  have hnc : (v 12).toNatClampNeg = n := by rw [hn.1, cl (by have := hn.2.1; omega)]
  unfold fCommit at hq
  rw [hnc] at hq
  unfold wp_X10_commit
  refine c_current l2 hwl hw.1.2 rk.2.1 (fun hval => ⟨fun _ => ?_, fun e => absurd e (by decide)⟩) (fun hval => ⟨fun e => absurd rfl e, fun _ => ?_⟩)
  · rw [cif_t hval] at hq
    refine c_invs hb hwl hw.1.1 hw.2.2.1 hn rk.2.2.1 (fun hok => ⟨fun _ => ?_, fun e => absurd e (by decide)⟩) (fun hok => ⟨fun e => absurd rfl e, fun _ => ?_⟩)
    · rw [cif_t hok] at hq
      have loop : ∀ (k j : Nat) (m1 : ct_M), j + k = 6 → Fr m m1 b (b + 52) → RW G m1 b (rSt v t T j) T → (∀ s, s < T → TR (rSt v t T j) s) → wb_X10_commit_31 Q (k + 1) b (b + 7 + 15 * t) (nI j) m1 := by
        intro k
        induction k with
        | zero =>
          intro j m1 hj f1 r1 t1
          have : j = 6 := by omega
          subst this
          have rk1 := r1.2.2.2 t ht
          have eruns : m1.1 (b + 7 + 15 * t) 2 = nI (r + 1) := by rw [rk1.1.2.1, rSt_own (by omega) (by omega) h0]; exact hrun
          have e1 : nI (r + 1) - 1 = nI r := (by decide : ∀ k, k < 3 → nI (k + 1) - 1 = nI k) r (by omega)
          unfold wb_X10_commit_31
          refine ⟨fun _ => ?_, fun e => absurd (by decide) e⟩
          intro m2 h2
          rw [eruns, e1] at h2
          have f2 : Fr m1 m2 (b + 7 + 15 * t) (b + 7 + 15 * t + 15) := by subst h2; exact Fr.st (by omega) (by omega)
          have rk2 : Rk G m2 (b + 7 + 15 * t) (upd (rSt v t T 6) (rAt t + 47) (nI r)) t := by subst h2; exact Rk_runs rk1 (t1 t ht).2 _
          have e2 : m2.1 (b + 7 + 15 * t) 2 = nI r := by subst h2; rw [ct_st_eq, upd_same]
          have fin : ∀ how : Int32, how = (if rRuns v t = 0 then 2 else 0) → wb_X10_commit_91 Q how (b + 7 + 15 * t) m2 := by
            intro how hhow
            unfold wb_X10_commit_91
            refine c_become (fun m3 f3 g1 g2 g3 _ => hq m3 ?_ ?_)
            · exact f1.tr ((f2.tr f3).mono (by omega) (by omega))
            · have rk3 := Rk_stop rk2 g1 g2 g3
              have er : rRuns v t = nI r := by unfold rRuns; rw [hrun, e1]
              have ee : rStop (upd (rSt v t T 6) (rAt t + 47) (nI r)) t how = rDone v t T := by
                rw [rDone_eq h0, ← hhow, er]
                unfold rEnd
                funext i
                unfold rStop rBegin
                simp only [upd]
                (repeat' split) <;> first | rfl | (exfalso; omega)
              rw [ee] at rk3
              refine RW_thread r1 ht hT (f2.tr f3) rk3 (fun i hi => ?_) t1
              show rDone v t T i = _
              rw [rDone_eq h0]; exact rEnd_out (by omega)
          rw [e2]
          have er : rRuns v t = nI r := by unfold rRuns; rw [hrun, e1]
          refine ⟨fun e => fin 2 ?_, fun e => fin 0 ?_⟩
          · have : r = 0 := by have := (cmp_le (by omega) (by decide : (0 : Nat) < 2 ^ 31)).mp e; omega
            rw [er, this]; rfl
          · have : r ≠ 0 := fun z => e (by rw [z]; decide)
            rw [er]; exact (by decide : ∀ r, r < 2 → r ≠ 0 → (0 : Int32) = if nI r = 0 then 2 else 0) r hr3 this
        | succ k ih =>
          intro j m1 hj f1 r1 t1
          have rk1 := r1.2.2.2 t ht
          have own : ∀ i, i < 49 → rSt v t T j (rAt t + i) = v (rAt t + i) := fun i hi => rSt_own (by omega) hi h0
          unfold wb_X10_commit_31
          simp (disch := omega) only [nI_ofNat, cmp_le]
          refine ⟨fun e => absurd e (by omega), fun _ => c_holds (fun hs => ⟨fun e => absurd e (by decide), fun _ => ?_⟩) (fun hs => ⟨fun _ => ?_, fun e => absurd rfl e⟩)⟩
          · rw [rk1.2.2.1.1] at hs
            have enum := rk1.2.2.1.2 j (by omega) hs
            rw [own 9 (by omega)] at hs
            rw [show rAt t + 10 + j = rAt t + (10 + j) by omega, own (10 + j) (by omega), show rAt t + (10 + j) = rAt t + 10 + j by omega] at enum
            have est : rSt v t T (j + 1) = rGrow (upd (rSt v t T j) j (v (rAt t + 10 + j))) j T := cif_t hs
            simp (disch := omega) only [vp_nI, cl, hwl.2.1, show b + 7 + 15 * t + 3 + 1 = b + 7 + 15 * t + 4 from rfl]
            refine ⟨by omega, ?_⟩
            rw [enum]
            refine c_store hb hT (by omega) r1 t1 (fun m2 f2 r2 => ?_)
            unfold wb_X10_commit_62
            intro x hx
            rw [hx, nI_ofNat 1, nI_add]
            refine ih (j + 1) m2 (by omega) (f1.tr f2) (by rw [est]; exact r2) (fun s hs2 => ?_)
            rw [est]
            exact TR_grow (by omega) (TR_move (t1 s hs2) fun i i1 i2 => upd_ne _ _ (by unfold rAt at i1; omega))
          · rw [rk1.2.2.1.1, own 9 (by omega)] at hs
            have est : rSt v t T (j + 1) = rSt v t T j := cif_f hs
            unfold wb_X10_commit_62
            intro x hx
            rw [hx, nI_ofNat 1, nI_add]
            exact ih (j + 1) m1 (by omega) f1 (by rw [est]; exact r1) (by rw [est]; exact t1)
      exact ⟨7, loop 6 0 m rfl Fr.rfl' hw hr⟩
    · rw [cif_f hok] at hq
      refine c_become (fun m2 f2 e1 e2 e3 _ => hq m2 (f2.mono (by omega) (by omega)) ?_)
      exact RW_thread hw ht hT f2 (Rk_stop rk e1 e2 e3) (fun i hi => rStop_out (by omega)) hr
  · rw [cif_f hval] at hq
    refine c_startAgain (fun m2 f2 e1 e2 e3 => hq m2 (f2.mono (by omega) (by omega)) ?_)
    exact RW_thread hw ht hT f2 (Rk_restart rk e1 e2 e3) (fun i hi => rRestart_out (by omega)) hr
