/-- the row behind the reference's preparing, for the first u threads -/
def Prep (v0 : Row) (a q u : Nat) (x : Row) : Prop := (∀ c, c < 6 → x c = nI (dg a c) - 99) ∧ (∀ i, 6 ≤ i → i < 25 → x i = v0 i) ∧ (∀ s, s < u → (∀ j, j < 47 → x (rAt s + j) = 0) ∧ x (rAt s + 47) = nI (sT q s / 4)) ∧ ∀ s, u ≤ s → s < 3 → x (rAt s + 47) = v0 (rAt s + 47)
theorem Prep_next {v0 x : Row} {a q u : Nat} (hu : u < 3) (h : Prep v0 a q u x) : Prep v0 a q (u + 1) (upd (rStop x u 0) (rAt u + 47) (nI (sT q u / 4))) := by
  have hr : rAt u = 25 + 49 * u := rfl
  obtain ⟨h1, h2, h3, h4⟩ := h
  have out : ∀ i, (i < rAt u ∨ rAt u + 48 ≤ i) → upd (rStop x u 0) (rAt u + 47) (nI (sT q u / 4)) i = x i := fun i hi => by
    rw [upd_ne _ _ (by omega), rStop_out (by omega)]
  refine ⟨fun c hc => by rw [out c (by omega)]; exact h1 c hc, fun i i1 i2 => by rw [out i (by omega)]; exact h2 i i1 i2, fun s hs => ?_, fun s s1 s2 => by rw [out _ (by unfold rAt; omega)]; exact h4 s (by omega) s2⟩
  by_cases e : s = u
  · subst e
    refine ⟨fun j hj => ?_, upd_same _ _ _⟩
    rw [upd_ne _ _ (by omega)]
    unfold rStop
    by_cases e : j = 0
    · subst e; exact upd_same _ _ _
    · rw [upd_ne _ _ (by omega)]
      unfold rBegin
      rw [if_pos (by omega)]
  · obtain ⟨a1, a2⟩ := h3 s (by omega)
    exact ⟨fun j hj => by rw [out _ (by unfold rAt; omega)]; exact a1 j hj, by rw [out _ (by unfold rAt; omega)]; exact a2⟩
theorem stS_c {r : Nat → Nat} {F B q u : Nat} (h1 : F / 2 ^ u % 2 = sT q u / 2 % 2) (h2 : B / 2 ^ u % 2 = sT q u % 2) (h3 : r u = sT q u / 4) : stS r F B u = sT q u := by
  unfold stS
  rw [h1, h2, h3]; omega
theorem r_schedule {G : Prg} {T t B : Nat} {N : Nat → Nat} {D : Nat → Nat → Nat} {v0 : Row} {p p' : Pnt} {E : EX} {Q : ct_M → Prop} {m0 m : ct_M} (hT : T ≤ 3) (hps : PSs G T N D) (hf : RWf G T N D B v0) (hB : B < 2 ^ 29) (ht : t < T) (hG : HasP G m0) (hth : m0.1 1023 4 = nI T) (h30 : m0.1 1030 = v0) (hC : RC m0 m) (hp : GPt G T v0 (pk6 (xOf v0)) (zOf T v0) (sOf T v0) p) (hn : nxP G T v0 p t = some p')
    (hE : E.2 < 4096) (hEg : ∀ i, i < E.2 → VP (E.1 i).1 ∧ (E.1 i).2 < 4096) (hK : RKey m 31 1045 E.2 (fun i => kR (E.1 i)))
    (h : ∀ m', RC m0 m' → (∀ q, q ≠ 1045 → m'.2 q = m.2 q) → m'.1 1023 33 = m.1 1023 33 → RKey m' 31 1045 (addE E p').2 (fun i => kR ((addE E p').1 i)) → Q m') : wp_X12_schedule 1023 (kR p) (nI t) Q m := by
  have hS := Sch_of hT hps hf
  obtain ⟨-, -, hi, hs, h16⟩ := id hS
  obtain ⟨⟨va, vb⟩, hq, hc⟩ := id hp
  have ht3 : t < 3 := by omega
  obtain ⟨h4, h40, h3⟩ := nxP_cases hn
  obtain ⟨hz, hr2, -⟩ := Cod_run hc hs ht3 h4 h40
  have hgood := nxP_good hS ht hp hn
  have m4 : m.1 1023 4 = nI T := by rw [hC.2.1 4 (by decide) (by decide) (by decide)]; exact hth
  have m30 : m.1 1030 = v0 := by rw [hC.1 _ (by decide) (by decide)]; exact h30
  have mG : HasP G m := fun k k1 k2 => by rw [hC.1 k (by omega) (by omega)]; exact hG k k1 k2
  have l31 : ct_ln (1023 + 8) = 172 := by decide
  have n6 := (hps t ht).1
  have prx : ∀ x : Row, pr m 1031 x = refC m (m.1 1023 29) x := fun x => by unfold refC; rw [ct_st_self]
  -- behind the run
  have fin : ∀ (x : Row) (Bk F : Nat), Prep v0 p.1 p.2 T x → Bk = bitsP (fun u => sT p.2 u % 2) T → F = bitsP (fun u => sT p.2 u / 2 % 2) T → wb_X12_schedule_146 Q 61 1023 (nI t) (nI Bk) (nI F) 0 (pr m 1031 x) := by
    intro x Bk F hx hBk hF
    obtain ⟨x1, x2, x3, x4⟩ := hx
    obtain ⟨bk1, bk2⟩ := bitsP_ok (f := fun u => sT p.2 u % 2) T hT
    obtain ⟨bf1, bf2⟩ := bitsP_ok (f := fun u => sT p.2 u / 2 % 2) T hT
    rw [← hBk] at bk1 bk2
    rw [← hF] at bf1 bf2
    have out0 : ∀ u, T ≤ u → u < 3 → sT p.2 u = 0 := fun u u1 u2 => Cod_out hc u1 u2
    have eB : ∀ u, u < 3 → Bk / 2 ^ u % 2 = sT p.2 u % 2 := fun u hu => by
      rw [bk2 u hu]
      by_cases c : u < T
      · split <;> omega
      · rw [out0 u (by omega) hu, if_neg (by omega)]
    have eF : ∀ u, u < 3 → F / 2 ^ u % 2 = sT p.2 u / 2 % 2 := fun u hu => by
      rw [bf2 u hu]
      by_cases c : u < T
      · split <;> omega
      · rw [out0 u (by omega) hu, if_neg (by omega)]
    have runs : ∀ s, s < 3 → x (rAt s + 47) = nI (sT p.2 s / 4) := fun s hs3 => by
      by_cases c : s < T
      · exact (x3 s c).2
      · rw [x4 s (by omega) hs3, out0 s (by omega) hs3]
        exact hf.2.2.2.2 s (by omega) hs3
    have stt : Stt v0 (dg p.1) t x := ⟨x1, fun i i1 i2 => x2 i (by omega) i2, (x3 t ht).1, fun c hc2 => by
      obtain ⟨q, q1, q2⟩ := hf.2.1 c hc2
      exact ⟨q, by omega, by rw [x2 _ (by omega) (by omega)]; exact q2⟩, sT p.2 t / 4, by omega, hr2, runs t ht3⟩
    obtain ⟨⟨tc, tr⟩, tg⟩ := tx_end (T := T) (w := m.1 1023 29) (hps t ht) ht3 hi vb stt
    have so := Stt_SO (hps t ht) hi vb stt
    have nz : ¬ (fSolo G T t 60 x (m.1 1023 29)).1 = 0 := by
      rcases tr with ⟨e, -⟩ | ⟨e | e, -⟩ <;> rw [e] <;> decide
    rw [prx]
    refine r_solo hT ht3 mG m4 (hps t ht) 59 0 x (m.1 1023 29) so (by omega) (by omega) ?_ nz
    show wb_X12_schedule_146 Q 1 1023 (nI t) (nI Bk) (nI F) (fSolo G T t 60 x (m.1 1023 29)).1 (refC m (fSolo G T t 60 x (m.1 1023 29)).2.2 (fSolo G T t 60 x (m.1 1023 29)).2.1)
    -- a number is made, and put
    have put : ∀ (w : Int32) (y : Row) (B2 F2 : Nat) (X r : Nat → Nat), B2 < 8 → F2 < 8 → (∀ c, c < 6 → X c ≤ 198) → (∀ s, s < 3 → r s ≤ 3) → (∀ c, c < 6 → y c = nI (X c) - 99) → (∀ s, s < 3 → y (rAt s + 47) = nI (r s)) → (∀ c, c < 6 → dg p'.1 c = X c) → (∀ u, u < 3 → stS r F2 B2 u = sT p'.2 u) → wb_X12_schedule_214 Q 1023 (nI B2) (nI F2) (refC m w y) := by
      intro w y B2 F2 X r hB2 hF2 hX hr hy1 hy2 hd hst
      have g31 : (refC m w y).1 1031 = y := refC_31
      unfold wb_X12_schedule_214
      rw [show 1023 + 8 = 1031 from rfl]
      refine r_keyOf (by decide) hF2 hB2 hX hr (fun c hc2 => by rw [g31]; exact hy1 c hc2) (fun s hs3 => by rw [g31]; exact hy2 s hs3) ?_
      have ek : lN (4096 * rV X + qS (stS r F2 B2)) = kR p' := by
        unfold kR rcode
        rw [rV_c hd, qS_c hst, qS_sT hgood.2.1]
      rw [ek]
      have hK2 : RKey (refC m w y) 31 1045 E.2 (fun i => kR (E.1 i)) := ⟨by rw [refC_23 (by decide)]; exact hK.1, hK.2⟩
      refine r_addE hE hK2 (fun k hk e => kR_inj (hEg k hk).1 hgood.1 (hEg k hk).2 hgood.2.1 e) (fun m' f g => ?_)
      refine h m' ((hC.tr RC.ref).tr f.C1) (fun q q1 => ?_) ?_ g
      · rw [f.2.2 q q1]; rfl
      · rw [f.2.1 33 (by decide), refC_23 (by decide)]
    unfold wb_X12_schedule_146
    refine ⟨fun _ => ?_, fun y => absurd y nz⟩
    have o16 := sT_lt p.2 t
    rcases h3 with ⟨e1, e2⟩ | ⟨e1, e2⟩ | ⟨e1, e1', e2⟩
    · obtain ⟨g1, xw, g2, g3⟩ := tg e1
      rcases tr with ⟨c1, r2, r3, r4⟩ | ⟨r1, -⟩
      · rw [c1]
        refine ⟨fun y => absurd rfl y, fun _ => ?_⟩
        rw [refC_w, r3, g3]
        have hl := nxC_lt (s := sT p.2) (t := t) (x := xw) (fun u _ => sT_lt p.2 u) ht3
        have ex : (txO G T v0 (dg p.1) t).2.2.toNatClampNeg = xw := by rw [g3, cl (by omega)]
        rw [ex] at e2
        obtain ⟨rf, hrf⟩ : ∃ rf : Nat → Nat, ∀ s, rf s = if s = t then sT p.2 t / 4 - 1 else sT p.2 s / 4 := ⟨_, fun _ => rfl⟩
        have row1 : ∀ s, s < 3 → (fSolo G T t 60 x (m.1 1023 29)).2.1 (rAt s + 47) = nI (rf s) := fun s hs3 => by
          rw [r4 s hs3, hrf]
          by_cases c : s = t
          · rw [if_pos c, if_pos c, runs t ht3]
            have := nI_pred (sT p.2 t / 4 - 1)
            rw [show sT p.2 t / 4 - 1 + 1 = sT p.2 t / 4 by omega] at this
            exact this
          · rw [if_neg c, if_neg c]; exact runs s hs3
        have dgp : ∀ c, c < 6 → dg p'.1 c = txV G T v0 (dg p.1) t c := fun c hc2 => by
          subst e2
          exact dg_pk (fun c hc => by have := g1 c hc; omega) c hc2
        have stp : ∀ B2, (∀ u, u < 3 → B2 / 2 ^ u % 2 = if xw = 0 then sT p.2 u % 2 else 0) → ∀ u, u < 3 → stS rf F B2 u = sT p'.2 u := by
          intro B2 hB2 u hu
          have e3 : sT p'.2 u = nxC (sT p.2) t xw u := by subst e2; exact sT_qS hl u hu
          have := sT_lt p.2 u
          rw [e3]
          unfold stS
          rw [eF u hu, hB2 u hu, hrf u]
          unfold nxC
          by_cases c : xw = 0
          · rw [if_pos c, if_pos c]
            by_cases d : u = t
            · subst d; rw [if_pos rfl, awS_eq]; omega
            · rw [if_neg d, awS_ne d]; omega
          · rw [if_neg c, if_neg c]
            show _ = awSet (sT p.2) t (sT p.2 t - 4) u - awSet (sT p.2) t (sT p.2 t - 4) u % 2
            by_cases d : u = t
            · subst d; rw [if_pos rfl, awS_eq]; omega
            · rw [if_neg d, awS_ne d]; omega
        have rb : ∀ s, s < 3 → rf s ≤ 3 := fun s hs3 => by
          have := sT_lt p.2 s
          rw [hrf]
          split <;> omega
        unfold wb_X12_schedule_184
        refine ⟨fun y => ?_, fun y => ?_⟩
        · have x0 : xw = 0 := (cmp_eq (b := 0) (by omega) (by decide)).mp y
          exact put _ _ Bk F (fun c => txV G T v0 (dg p.1) t c) _ bk1 bf1 g1 rb (fun c hc2 => (r2 c hc2).1) row1 dgp (stp Bk fun u hu => by rw [if_pos x0]; exact eB u hu)
        · have x0 : ¬ xw = 0 := fun z => y (by rw [z]; rfl)
          exact put _ _ 0 F (fun c => txV G T v0 (dg p.1) t c) _ (by decide) bf1 g1 rb (fun c hc2 => (r2 c hc2).1) row1 dgp (stp 0 fun u hu => by rw [if_neg x0, Nat.zero_div])
      · rw [tc, e1] at r1; exact absurd r1 (by decide)
    · rw [tc, e1]
      refine ⟨fun _ => ⟨fun y => absurd rfl y, fun _ => ?_⟩, fun y => absurd y (by decide)⟩
      intro x5 e5
      obtain ⟨o1, o2, o3⟩ := or_bit Bk bk1 t ht3
      rw [o1] at e5
      rw [e5]
      have ap : apart t x (fSolo G T t 60 x (m.1 1023 29)).2.1 := by
        rcases tr with ⟨c1, -⟩ | ⟨-, r⟩
        · rw [tc, e1] at c1; exact absurd c1 (by decide)
        · exact r
      have hrt : rAt t = 25 + 49 * t := rfl
      have hl := awS_16 (δ := 1) h40 (by omega) ht3
      obtain ⟨rf, hrf⟩ : ∃ rf : Nat → Nat, ∀ s, rf s = sT p.2 s / 4 := ⟨_, fun _ => rfl⟩
      refine put _ _ _ F (dg p.1) rf o2 bf1 vb (fun s hs3 => by have := sT_lt p.2 s; rw [hrf]; omega) (fun c hc2 => by rw [ap c (by omega)]; exact x1 c hc2) (fun s hs3 => by rw [ap _ (by unfold rAt; omega), hrf]; exact runs s hs3) (fun c hc2 => by subst e2; rfl) (fun u hu => ?_)
      have e3 : sT p'.2 u = awSet (sT p.2) t (sT p.2 t + 1) u := by subst e2; exact sT_qS hl u hu
      rw [e3]
      unfold stS
      rw [eF u hu, o3 u hu, hrf u]
      by_cases d : u = t
      · subst d; rw [if_pos rfl, awS_eq]; omega
      · rw [if_neg d, awS_ne d, eB u hu]; omega
    · rw [tc]
      refine ⟨fun _ => ⟨fun _ => ?_, fun y => absurd y e1'⟩, fun y => absurd y e1⟩
      intro x4' e5
      obtain ⟨o1, o2, o3⟩ := or_bit F bf1 t ht3
      rw [o1] at e5
      rw [e5]
      have ap : apart t x (fSolo G T t 60 x (m.1 1023 29)).2.1 := by
        rcases tr with ⟨c1, -⟩ | ⟨-, r⟩
        · rw [tc] at c1; exact absurd c1 e1
        · exact r
      have hrt : rAt t = 25 + 49 * t := rfl
      have hl := awS_16 (δ := 2) h40 (by omega) ht3
      obtain ⟨rf, hrf⟩ : ∃ rf : Nat → Nat, ∀ s, rf s = sT p.2 s / 4 := ⟨_, fun _ => rfl⟩
      refine put _ _ Bk _ (dg p.1) rf bk1 o2 vb (fun s hs3 => by have := sT_lt p.2 s; rw [hrf]; omega) (fun c hc2 => by rw [ap c (by omega)]; exact x1 c hc2) (fun s hs3 => by rw [ap _ (by unfold rAt; omega), hrf]; exact runs s hs3) (fun c hc2 => by subst e2; rfl) (fun u hu => ?_)
      have e3 : sT p'.2 u = awSet (sT p.2) t (sT p.2 t + 2) u := by subst e2; exact sT_qS hl u hu
      rw [e3]
      unfold stS
      rw [eB u hu, o3 u hu, hrf u]
      by_cases d : u = t
      · subst d; rw [if_pos rfl, awS_eq]; omega
      · rw [if_neg d, awS_ne d, eF u hu]; omega
  -- the threads are prepared
  have thr : ∀ (n u : Nat) (x : Row), u + n = T → Prep v0 p.1 p.2 u x → wb_X12_schedule_49 Q (n + 1) 1023 (kR p) (nI t) (nI (bitsP (fun u => sT p.2 u % 2) u)) (nI (bitsP (fun u => sT p.2 u / 2 % 2) u)) (nI u) (pr m 1031 x) := by
    intro n
    induction n with
    | zero =>
      intro u x hu hx
      have : u = T := by omega
      subst this
      unfold wb_X12_schedule_49
      rw [pr_ne _ _ (by decide), m4]
      exact ⟨fun _ => ⟨61, fin x _ _ hx rfl rfl⟩, fun y => absurd ((cmp_le (by omega) (by omega)).mpr (Nat.le_refl _)) y⟩
    | succ n ih =>
      intro u x hu hx
      have hu3 : u < 3 := by omega
      have o16 := sT_lt p.2 u
      obtain ⟨d1, d2, d3, -⟩ := odd16 (sT p.2 u) o16
      unfold wb_X12_schedule_49
      rw [pr_ne _ _ (by decide), m4]
      refine ⟨fun y => absurd ((cmp_le (by omega) (by omega)).mp y) (by omega), fun _ => ?_⟩
      unfold kR
      refine rc_thread vb hq hu3 ?_
      obtain ⟨bk1, -⟩ := bitsP_ok (f := fun u => sT p.2 u % 2) u (by omega)
      obtain ⟨bf1, -⟩ := bitsP_ok (f := fun u => sT p.2 u / 2 % 2) u (by omega)
      have last : ∀ (s0 : Int32) (b4 : Int32), b4 = nI (bitsP (fun u => sT p.2 u % 2) (u + 1)) → nI (bitsP (fun u => sT p.2 u / 2 % 2) u) ||| s0 = nI (bitsP (fun u => sT p.2 u / 2 % 2) (u + 1)) → wb_X12_schedule_107 (wb_X12_schedule_49 Q (n + 1)) Q 1023 (lN (rcode p.1 p.2)) (nI t) b4 (nI u) (nI (sT p.2 u)) s0 (nI (bitsP (fun u => sT p.2 u / 2 % 2) u)) (pr m 1031 x) := by
        intro s0 b4 hb4 hs0
        unfold wb_X12_schedule_107
        intro x1 e1
        rw [hs0] at e1
        refine r_stop (A := 1023 + 8) (by decide) hu3 ?_
        unfold wp_X12_at
        simp (disch := omega) only [nI_ofNat 25, nI_ofNat 49, nI_ofNat 47, pk_mul, nI_add, vp_nI, cl, l31]
        refine ⟨by omega, ?_⟩
        intro m6 e6 x7 e7
        rw [e7, e1, hb4, nI_ofNat 1, nI_add]
        rw [d3, pr_st, pr_pr, pr_at, pr_pr] at e6
        rw [e6]
        have := ih (u + 1) _ (by omega) (Prep_next hu3 hx)
        unfold kR at this
        exact this
      have mid : ∀ (s0 : Int32), nI (bitsP (fun u => sT p.2 u % 2) u) ||| s0 = nI (bitsP (fun u => sT p.2 u % 2) (u + 1)) → wb_X12_schedule_84 (wb_X12_schedule_49 Q (n + 1)) Q 1023 (lN (rcode p.1 p.2)) (nI t) (nI (bitsP (fun u => sT p.2 u / 2 % 2) u)) (nI u) (nI (sT p.2 u)) s0 (nI (bitsP (fun u => sT p.2 u % 2) u)) (pr m 1031 x) := by
        intro s0 hs0
        unfold wb_X12_schedule_84
        intro x1 e1
        rw [hs0] at e1
        refine ⟨fun y => ?_, fun y => ?_⟩
        · refine last 0 x1 e1 ?_
          show _ = nI (if sT p.2 u / 2 % 2 = 1 then _ else _)
          rw [if_neg fun w => y (d2.mpr w), Int32.or_zero]
        · refine last _ x1 e1 ?_
          show _ = nI (if sT p.2 u / 2 % 2 = 1 then _ else _)
          rw [if_pos (d2.mp y)]
          exact (or_bit _ bf1 u hu3).1
      refine ⟨fun y => mid 0 ?_, fun y => mid _ ?_⟩
      · show _ = nI (if sT p.2 u % 2 = 1 then _ else _)
        rw [if_neg fun w => y (d1.mpr w), Int32.or_zero]
      · show _ = nI (if sT p.2 u % 2 = 1 then _ else _)
        rw [if_pos (d1.mp y)]
        exact (or_bit _ bk1 u hu3).1
  have val : ∀ (n c : Nat) (x : Row), c + n = 6 → (∀ i, i < c → x i = nI (dg p.1 i) - 99) → (∀ i, 6 ≤ i → i < 172 → x i = v0 i) → wb_X12_schedule_20 Q (n + 1) 1023 (kR p) (nI t) 0 0 (nI c) (pr m 1031 x) := by
    intro n
    induction n with
    | zero =>
      intro c x hc2 hx hx2
      have : c = 6 := by omega
      subst this
      unfold wb_X12_schedule_20
      refine ⟨fun _ => ⟨T + 1, thr T 0 x (by omega) ⟨hx, fun i i1 i2 => hx2 i i1 (by omega), fun s hs2 => absurd hs2 (Nat.not_lt_zero s), fun s _ s2 => hx2 _ (by unfold rAt; omega) (by unfold rAt; omega)⟩⟩, fun y => absurd (by decide) y⟩
    | succ n ih =>
      intro c x hc2 hx hx2
      unfold wb_X12_schedule_20
      refine ⟨fun y => absurd ((cmp_le (a := 6) (by decide) (by omega)).mp y) (by omega), fun _ => ?_⟩
      have nx : ∀ m6 : ct_M, m6 = pr m 1031 (upd x c (nI (dg p.1 c) - 99)) → wb_X12_schedule_20 Q (n + 1) 1023 (kR p) (nI t) 0 0 (nI (c + 1)) m6 := by
        intro m6 e6
        rw [e6]
        refine ih (c + 1) _ (by omega) (fun i hi2 => ?_) (fun i i1 i2 => by rw [upd_ne _ _ (by omega)]; exact hx2 i i1 i2)
        by_cases e : i = c
        · subst e; exact upd_same _ _ _
        · rw [upd_ne _ _ e]; exact hx i (by omega)
      unfold kR
      unfold kR at nx
      refine rc_value vb hq (by omega) ?_
      rw [l31, cl (by omega)]
      refine ⟨(vp_nI (by omega)).mpr (by omega), ?_⟩
      intro m6 e6 x7 e7
      rw [show 1023 + 8 = 1031 from rfl, pr_st, pr_pr, pr_at] at e6
      rw [e7, nI_ofNat 1, nI_add]
      exact nx m6 e6
  unfold wp_X12_schedule
  refine r_assign ⟨7, ?_⟩
  rw [m30]
  exact val 6 0 _ (by omega) (fun i hi2 => absurd hi2 (Nat.not_lt_zero i)) (fun i _ i2 => if_pos i2)
