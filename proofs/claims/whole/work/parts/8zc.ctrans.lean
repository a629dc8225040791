/-! the class runs a transaction of a point -/
def vNx (v : Row) (a t r : Nat) : Row := fun i => if i < 6 then nI (dg a i) - 99 else if i < 12 then 0 else rStop (upd v (rAt t + 47) (nI r)) t 0 i
theorem vNx_o {v : Row} {a t r i : Nat} (h : 12 ≤ i) (h2 : i < rAt t ∨ rAt t + 48 ≤ i) : vNx v a t r i = v i := by
  unfold vNx
  rw [if_neg (by omega), if_neg (by omega), rStop_out (by omega), upd_ne _ _ (by omega)]
theorem vNx_47 {v : Row} {a t r : Nat} : vNx v a t r (rAt t + 47) = nI r := by
  have hr : rAt t = 25 + 49 * t := rfl
  unfold vNx
  rw [if_neg (by omega), if_neg (by omega), rStop_out (by omega), upd_same]
theorem vNx_z {v : Row} {a t r j : Nat} (h : j < 47) : vNx v a t r (rAt t + j) = 0 := by
  have hr : rAt t = 25 + 49 * t := rfl
  unfold vNx
  rw [if_neg (by omega), if_neg (by omega)]
  unfold rStop
  by_cases e : j = 0
  · subst e; exact upd_same _ _ _
  · rw [upd_ne _ _ (by omega)]
    unfold rBegin
    rw [if_pos (by omega)]
theorem vNx_wf {G : Prg} {T a t r B : Nat} {N : Nat → Nat} {D : Nat → Nat → Nat} {v : Row} (hs : PSs G T N D) (ht : t < T) (hT : T ≤ 3) (ha : ∀ c, c < 6 → dg a c ≤ 198) (hr : 0 < r) (hr2 : r ≤ 2) (h : RWf G T N D B v) : RWf G T N D 0 (vNx v a t r) := by
  have hrt : rAt t = 25 + 49 * t := rfl
  obtain ⟨h1, h2, ⟨n, h3⟩, h4, h5⟩ := h
  refine ⟨fun c hc => ?_, fun c hc => ⟨0, Nat.le_refl _, ?_⟩, ⟨n, rInvs_move h3 fun i i1 i2 => vNx_o i1 (by omega)⟩, fun s hs2 => ?_, fun u u1 u2 => (vNx_o (by unfold rAt; omega) (by unfold rAt; omega)).trans (h5 u u1 u2)⟩
  · unfold vNx; rw [if_pos hc]; exact V_99 (ha c hc)
  · unfold vNx; rw [if_neg (by omega), if_pos (by omega)]; rfl
  · by_cases e : s = t
    · subst e
      exact TW_zero (hs s hs2) (fun j _ j2 => vNx_z j2) ⟨r, hr2, vNx_47, Or.inl ⟨vNx_z (j := 0) (by omega), hr⟩⟩
    · exact TW_move (hs s hs2) (h4 s hs2) fun j hj => vNx_o (by unfold rAt; omega) (by unfold rAt; omega)
theorem vNx_Stt {G : Prg} {T a t r B : Nat} {N : Nat → Nat} {D : Nat → Nat → Nat} {v v0 : Row} (hT : t < 3) (hr : 0 < r) (hr2 : r ≤ 2) (hv : ∀ i, 12 ≤ i → i < 25 → v i = v0 i) : Stt v0 (dg a) t (vNx v a t r) := by
  have hrt : rAt t = 25 + 49 * t := rfl
  refine ⟨fun c hc => if_pos hc, fun i i1 i2 => (vNx_o i1 (by omega)).trans (hv i i1 i2), fun j hj => vNx_z hj, fun c hc => ⟨0, by decide, ?_⟩, r, hr, hr2, vNx_47⟩
  unfold vNx
  rw [if_neg (by omega), if_pos (by omega)]; rfl
theorem c_prepare {G : Prg} {T a t B : Nat} {N : Nat → Nat} {D : Nat → Nat → Nat} {v : Row} {z : Nat → Bool} {s : Nat → Nat} {Q : ct_M → Prop} {m : ct_M} (hT : T ≤ 3) (ht : t < T) (hs : PSs G T N D) (ha : a < 2 ^ 48) (h16 : ∀ t, t < 3 → s t < 16) (hw : RW G m 971 v T) (hf : RWf G T N D B v)
    (h : ∀ m', Fr m m' 971 (971 + 52) → RW G m' 971 (vNx v a t (rr z s t)) T → Q m') : wp_X6_prepare 964 (971 + 7 + 15 * t) (lN (ccode z a s)) (nI t) Q m := by
  have hrt : rAt t = 25 + 49 * t := rfl
  have l1 : ct_ln (964 + 7 + 1) = 6 := by decide +kernel
  have l2 : ct_ln (964 + 7 + 2) = 6 := by decide +kernel
  have loop : ∀ (n c : Nat) (m1 : ct_M), c + n = 6 → Fr m m1 971 (971 + 52) → (∀ q, q ≠ 972 → q ≠ 973 → m1.1 q = m.1 q) → (∀ i, i < c → m1.1 972 i = nI (dg a i) - 99 ∧ m1.1 973 i = 0) → wb_X6_prepare_3 Q (n + 1) 964 (971 + 7 + 15 * t) (lN (ccode z a s)) (nI t) (nI c) m1 := by
    intro n
    induction n with
    | zero =>
      intro c m1 hc f1 o1 v1
      have : c = 6 := by omega
      subst this
      unfold wb_X6_prepare_3
      refine ⟨fun _ => cc_runs ha h16 (by omega) ?_, fun y => absurd (by decide) y⟩
      intro m4 e4
      have f4 : Fr m1 m4 971 (971 + 52) := by subst e4; exact Fr.st (by omega) (by omega) (by unfold Bk; omega)
      have o4 : ∀ q, q ≠ 971 + 7 + 15 * t → m4.1 q = m1.1 q := fun q hq => by subst e4; exact ct_st_ne hq
      have s4 : m4.1 (971 + 7 + 15 * t) = upd (m.1 (971 + 7 + 15 * t)) 2 (nI (rr z s t)) := by subst e4; rw [ct_st_eq, o1 _ (by omega) (by omega)]
      refine c_become (fun m5 f5 b0 b1 b2 b3 => ?_)
      have far : ∀ q, q ≠ 972 → q ≠ 973 → q ≠ 971 + 7 + 15 * t → q ≠ 971 + 7 + 15 * t + 1 → q ≠ 971 + 7 + 15 * t + 3 → m5.1 q = m.1 q := fun q q1 q2 q3 q4 q5 => by rw [b3 q q3 q4 q5, o4 q q3, o1 q q1 q2]
      refine h m5 ((f1.tr f4).tr (f5.mono (by omega) (by omega))) ⟨⟨fun c hc => ?_, fun c hc => ?_⟩, ?_, ?_, fun u hu => ?_⟩
      · rw [b3 _ (by omega) (by omega) (by omega), o4 _ (by omega), (v1 c hc).1]
        unfold vNx; rw [if_pos hc]
      · rw [b3 _ (by omega) (by omega) (by omega), o4 _ (by omega), (v1 c hc).2]
        unfold vNx; rw [if_neg (by omega), if_pos (by omega)]
      · rw [far _ (by omega) (by omega) (by omega) (by omega) (by omega)]; exact hw.2.1
      · exact RWi_move hw.2.2.1 (by rw [far _ (by omega) (by omega) (by omega) (by omega) (by omega)]) (fun q q1 q2 => far q (by omega) (by omega) (by omega) (by omega) (by omega)) (fun i i1 i2 => vNx_o i1 (by omega))
      · by_cases e : u = t
        · subst e
          have zz : ∀ j, j < 47 → vNx v a u (rr z s u) (rAt u + j) = 0 := fun j hj => vNx_z hj
          refine ⟨⟨?_, ?_, ?_, ?_, ?_, ?_⟩, ⟨⟨0, by omega, ?_⟩, fun c hc => ?_⟩, ⟨?_, fun c hc hb => ?_⟩, fun k hk => ?_⟩
          · rw [b0, show rAt u = rAt u + 0 from rfl, zz 0 (by omega)]; rfl
          · rw [b0, vNx_47, s4]; rfl
          · rw [b0, vNx_o (by omega) (by omega), s4]
            exact (hw.2.2.2 u hu).1.2.2.1
          · rw [b0, zz 2 (by omega)]; rfl
          · rw [b0, zz 1 (by omega)]; rfl
          · rw [b0, zz 16 (by omega)]; rfl
          · rw [b1, upd_same]; rfl
          · rw [b1, upd_same, Nat.add_assoc, zz (3 + c) (by omega)]
            exact ⟨⟨fun y => absurd y (bit0 c hc), fun y => absurd rfl y⟩, fun y => absurd rfl y⟩
          · rw [b2, upd_same, zz 9 (by omega)]
          · rw [zz 9 (by omega)] at hb
            exact absurd hb (bit0 c hc)
          · rw [zz 16 (by omega)] at hk
            exact absurd hk (by rw [show Int32.toNatClampNeg 0 = 0 from rfl]; omega)
        · exact (hw.2.2.2 u hu).move (fun q q1 q2 => far q (by omega) (by omega) (by omega) (by omega) (by omega)) (fun i i1 i2 => vNx_o (by unfold rAt at i1; omega) (by unfold rAt at i1 i2 ⊢; omega)) ((RWf_TR hs hf) u hu).2
    | succ n ih =>
      intro c m1 hc f1 o1 v1
      unfold wb_X6_prepare_3
      refine ⟨fun y => absurd ((cmp_le (a := 6) (by decide) (by omega)).mp y) (by omega), fun _ => cc_cell ha h16 (by omega) ?_⟩
      rw [l1, l2, cl (by omega)]
      refine ⟨(vp_nI (by omega)).mpr (by omega), ?_⟩
      intro m10 e10
      refine ⟨(vp_nI (by omega)).mpr (by omega), ?_⟩
      intro m12 e12 x13 e13
      rw [e13, nI_ofNat 1, nI_add]
      refine ih (c + 1) m12 (by omega) (f1.tr ?_) (fun q q1 q2 => ?_) (fun i hi => ?_)
      · subst e12 e10
        exact (Fr.st (by omega) (by omega) (by unfold Bk; omega)).tr (Fr.st (by omega) (by omega) (by unfold Bk; omega))
      · subst e12 e10; rw [ct_st_ne q2, ct_st_ne q1]; exact o1 q q1 q2
      · subst e12 e10
        rw [ct_st_ne (by decide : (972 : Nat) ≠ 964 + 7 + 2), show 964 + 7 + 1 = 972 from rfl, ct_st_eq, show 964 + 7 + 2 = 973 from rfl, ct_st_eq, ct_st_ne (by decide : (973 : Nat) ≠ 972)]
        by_cases e : i = c
        · subst e; rw [upd_same, upd_same]; exact ⟨rfl, rfl⟩
        · rw [upd_ne _ _ e, upd_ne _ _ e]; exact v1 i (by omega)
  unfold wp_X6_prepare
  exact ⟨7, loop 6 0 m (by omega) Fr.rfl' (fun _ _ _ => rfl) (fun i hi => absurd hi (Nat.not_lt_zero i))⟩
theorem step_ready {G : Prg} {T B t : Nat} {N : Nat → Nat} {D : Nat → Nat → Nat} {v : Row} {w : Int32} (hs : PSs G T N D) (ht : t < T) (h : RWf G T N D B v) (hB : B < 2 ^ 29) (h0 : v (rAt t) = 0) (hz : (fStep G T v t w).1 = 0) : (fStep G T v t w).2.1 (rAt t) = 0 := by
  have nf : ∀ u, ¬ (fCommit T u t w).1 = 0 := by
    intro u
    unfold fCommit
    by_cases c : rValid u t
    · rw [cif_t c]
      by_cases c2 : rInvOK u t (u 12).toNatClampNeg
      · rw [cif_t c2]; exact (by decide : ¬ (1 : Int32) = 0)
      · rw [cif_f c2]; exact (by decide : ¬ (4 : Int32) = 0)
    · rw [cif_f c]; exact (by decide : ¬ (2 : Int32) = 0)
  rcases step_cases (w := w) hs ht h hB h0 with ⟨u, p, hm, hag, ⟨hp, -, e, -⟩ | ⟨hp, e, -⟩⟩ | ⟨-, ef, e⟩
  · rw [e]; exact hm.2.2.2.2.2.2.2
  · rw [e] at hz; exact absurd hz (nf u)
  · rw [ef] at hz
    rcases e with e | e | e <;> rw [e] at hz
    · exact absurd hz n3_0
    · exact absurd hz n2_0
    · exact absurd hz n4_0
theorem c_solo {G : Prg} {T t : Nat} {N : Nat → Nat} {D : Nat → Nat → Nat} {key : Int64} {Q : Int64 → ct_M → Prop} (hT : T ≤ 3) (ht : t < T) (hs : PSs G T N D) : ∀ (f j B : Nat) (v : Row) (w : Int32) (m : ct_M), j + f = 60 → B + 6 * f < 2 ^ 29 → (∀ s, s < T → PG G m (11 + 5 * s) s (N s)) → RW G m 971 v T → RWf G T N D B v → v (rAt t) = 0 →
    (∀ m', Fr m m' 971 (971 + 52) → RW G m' 971 (fSolo G T t f v w).2.1 T → RWf G T N D (B + 6 * f) (fSolo G T t f v w).2.1 → wb_X6_afterTransaction_67 Q 964 key (nI t) (fSolo G T t f v w).1 m') → wb_X6_afterTransaction_38 Q (f + 1) 964 key (nI t) (971 + 7 + 15 * t) 0 (nI j) m := by
  intro f
  induction f with
  | zero =>
    intro j B v w m hj hB hP hw hf h0 hq
    have : j = 60 := by omega
    subst this
    unfold wb_X6_afterTransaction_38
    exact ⟨fun _ => hq m Fr.rfl' hw (hf.mono (by omega)), fun y => absurd (by decide) y⟩
  | succ f ih =>
    intro j B v w m hj hB hP hw hf h0 hq
    unfold wb_X6_afterTransaction_38
    refine ⟨fun y => absurd ((cmp_le (a := 60) (by decide) (by omega)).mp y) (by omega), fun _ => ⟨fun y => absurd rfl y, fun _ => ?_⟩⟩
    rw [show 964 + 7 = 971 from rfl]
    refine c_advance (b := 971) (ww := w) K_971 (by omega) hT ht hs hP hw hf (by omega) h0 (fun m1 f1 rw1 => ?_)
    intro x6 e6
    rw [e6, nI_ofNat 1, nI_add]
    have wf1 := step_wf (w := w) hs ht hf (by omega) h0
    by_cases c : (fStep G T v t w).1 = 0
    · have es : fSolo G T t (f + 1) v w = fSolo G T t f (fStep G T v t w).2.1 (fStep G T v t w).2.2 := cif_t c
      rw [es] at hq
      rw [c]
      exact ih (j + 1) (B + 6) _ _ m1 (by omega) (by omega) (PG_fr (b := 971) hT (by omega) hP fun q hq => f1.2 q (by omega)) rw1 wf1 (step_ready hs ht hf (by omega) h0 c) (fun m2 f2 rw2 wf2 => hq m2 (f1.tr f2) rw2 (wf2.mono (by omega)))
    · have es : fSolo G T t (f + 1) v w = fStep G T v t w := cif_f c
      rw [es] at hq
      have hq1 := hq m1 f1 rw1 (wf1.mono (by omega))
      unfold wb_X6_afterTransaction_38
      exact ⟨fun _ => hq1, fun _ => ⟨fun _ => hq1, fun y => absurd y c⟩⟩
/-- the class's world for the schedules -/
def CW (G : Prg) (T : Nat) (N : Nat → Nat) (D : Nat → Nat → Nat) (v0 : Row) (m0 m : ct_M) : Prop := (∃ (v : Row) (B : Nat), RW G m 971 v T ∧ RWf G T N D B v ∧ ∀ i, 12 ≤ i → i < 25 → v i = v0 i) ∧ OkAll m ∧ (∀ q, (q < 965 ∨ 1023 ≤ q) → m.1 q = m0.1 q) ∧ ∀ q, q ≠ 966 → q ≠ 969 → m.2 q = m0.2 q
noncomputable def kC (z : Nat → Bool) (p : Pnt) : Int64 := lN (ccode z p.1 (sT p.2))
theorem rBit_nat {W : Int32} {c : Nat} : (0 : Int32) + rBit W c = rBit W c := Int32.zero_add _
theorem cc_s {z : Nat → Bool} {a : Nat} {s s' : Nat → Nat} (h : ∀ u, u < 3 → s u = s' u) : ccode z a s = ccode z a s' := by
  unfold ccode tau tauR tauF tauB rr
  rw [h 0 (by omega), h 1 (by omega), h 2 (by omega)]
theorem c_after {G : Prg} {T a0 t : Nat} {N : Nat → Nat} {D : Nat → Nat → Nat} {v0 : Row} {z : Nat → Bool} {s0 : Nat → Nat} {p p' : Pnt} {Q : Int64 → ct_M → Prop} {m0 m : ct_M} (hS : SchOK G T N D v0 z s0) (ht : t < T) (hP : ∀ s, s < T → PG G m0 (11 + 5 * s) s (N s)) (hp : GPt G T v0 a0 z s0 p) (hn : nxP G T v0 p t = some p') (hC : CW G T N D v0 m0 m)
    (h : ∀ m', CW G T N D v0 m0 m' → (∀ q, q < 971 → m'.1 q = m.1 q) → m'.2 = m.2 → Q (kC z p') m') : wp_X6_afterTransaction 964 (kC z p) (nI t) Q m := by
  obtain ⟨hT, hps, hi, hs, h16⟩ := id hS
  obtain ⟨⟨va, vb⟩, hq, hc⟩ := id hp
  have ht3 : t < 3 := by omega
  obtain ⟨h4, h40, h3⟩ := nxP_cases hn
  obtain ⟨hz, hr2, -⟩ := Cod_run hc hs ht3 h4 h40
  obtain ⟨⟨v, B, rw0, wf0, inv0⟩, ok0, fr1, fr2⟩ := hC
  have l3 : ct_ln (964 + 7 + 3) = 3 := by decide +kernel
  have s16 : ∀ u, u < 3 → sT p.2 u < 16 := fun u _ => sT_lt p.2 u
  have erun : rr z (sT p.2) t = sT p.2 t / 4 := by unfold rr; rw [hz]; rfl
  have st4 := sT_lt p.2 t
  have hPm : ∀ s, s < T → PG G m (11 + 5 * s) s (N s) := PG_fr (b := 965) hT (by omega) hP fun q hq => fr1 q (by omega)
  unfold wp_X6_afterTransaction kC
  rw [show 964 + 7 = 971 from rfl]
  refine c_hasThread hT rw0.2.1 (fun t' ht' e => ⟨fun _ => ?_, fun y => absurd y (by decide)⟩) (fun y => absurd rfl (y t ht))
  rw [show 971 + 3 = 964 + 7 + 3 from rfl, l3, cl (n := t) (by omega), show 964 + 7 + 3 + 4 + 15 * t = 971 + 7 + 15 * t by omega]
  refine ⟨(vp_nI (by omega)).mpr ht3, c_prepare hT ht hps va s16 rw0 wf0 (fun m1 f1 rw1 => ⟨61, ?_⟩)⟩
  rw [erun] at rw1
  have wf1 := vNx_wf (a := p.1) (r := sT p.2 t / 4) hps ht hT vb (by omega) hr2 wf0
  have stt : Stt v0 (dg p.1) t (vNx v p.1 t (sT p.2 t / 4)) := vNx_Stt (G := G) (T := T) (B := B) (N := N) (D := D) ht3 (by omega) hr2 inv0
  obtain ⟨te, tg⟩ := tx_end (T := T) (w := 0) (hps t ht) ht3 hi vb stt
  refine c_solo (key := lN (ccode z p.1 (sT p.2))) (Q := Q) hT ht hps 60 0 0 (vNx v p.1 t (sT p.2 t / 4)) 0 m1 (by omega) (by omega) (PG_fr (b := 971) hT (by omega) hPm fun q hq => f1.2 q (by omega)) rw1 wf1 (vNx_z (j := 0) (by omega)) (fun m2 f2 rw2 wf2 => ?_)
  have f12 := f1.tr f2
  have inv2 : ∀ i, 12 ≤ i → i < 25 → (fSolo G T t 60 (vNx v p.1 t (sT p.2 t / 4)) 0).2.1 i = v0 i := by
    intro i i1 i2
    obtain ⟨uK, u, hl, hc2, fK, f⟩ := ls_run (T := T) (hps t ht) 59 0 (vK v0 (dg p.1) t) (vNx v p.1 t (sT p.2 t / 4)) 0 0 (Stt_SO (hps t ht) hi vb Stt_K) (Stt_SO (hps t ht) hi vb stt) (Stt_ls Stt_K stt) (by omega) (by have := (hps t ht).1; omega)
    have hrt : rAt t = 25 + 49 * t := rfl
    rcases f with ⟨-, b, -, d, -⟩ | ⟨-, b⟩
    · have e : (fSolo G T t (59 + 1) (vNx v p.1 t (sT p.2 t / 4)) 0).2.1 i = u i := by
        rw [b]
        unfold rDone
        have gr : ∀ j, j ≤ 6 → rGrows (u (rAt t + 9)) T (rAfter u t) j i = rAfter u t i := by
          intro j
          induction j with
          | zero => intro _; rfl
          | succ j ih =>
            intro hj
            unfold rGrows
            by_cases hb : bitSet (u (rAt t + 9)) j
            · rw [if_pos hb, rGrow_out i2 (by omega)]; exact ih (by omega)
            · rw [if_neg hb]; exact ih (by omega)
        rw [gr 6 (by omega)]
        exact rAfter_out (by omega) (by omega)
      show (fSolo G T t (59 + 1) (vNx v p.1 t (sT p.2 t / 4)) 0).2.1 i = _
      rw [e, d i (by omega), vNx_o i1 (by omega)]; exact inv0 i i1 i2
    · show (fSolo G T t (59 + 1) (vNx v p.1 t (sT p.2 t / 4)) 0).2.1 i = _
      rw [b i (by omega), vNx_o i1 (by omega)]; exact inv0 i i1 i2
  have cw2 : CW G T N D v0 m0 m2 := ⟨⟨_, _, rw2, wf2, inv2⟩, ok0.keep K_971 f12, fun q hq => (f12.2 q (by omega)).trans (fr1 q hq), fun q q1 q2 => by rw [f12.1.1]; exact fr2 q q1 q2⟩
  have hend : ∀ k : Int64, k = kC z p' → Q k m2 := fun k e => by rw [e]; exact h m2 cw2 (fun q hq => f12.2 q (by omega)) f12.1.1
  obtain ⟨tc, tr⟩ := te
  unfold wb_X6_afterTransaction_67
  rcases h3 with ⟨e1, e2⟩ | ⟨e1, e2⟩ | ⟨e1, e1', e2⟩
  · obtain ⟨g1, x, g2, g3⟩ := tg e1
    rw [tc, e1]
    refine ⟨fun _ => ⟨fun y => absurd rfl y, fun _ => ?_⟩, fun y => absurd y (by decide)⟩
    rcases tr with ⟨-, r2, -, -⟩ | ⟨r1, -⟩
    · refine c_afterCommit (x := x) (Y := fun c => txV G T v0 (dg p.1) t c) va s16 ht3 hz h4 g1 (fun c hc2 => ?_) g2 (fun c hc2 => ?_) (hend _ ?_)
      · rw [show (972 : Nat) = 971 + 1 from rfl, rw2.1.1 c hc2]; exact (r2 c hc2).1
      · rw [show (973 : Nat) = 971 + 2 from rfl, rw2.1.2 c hc2, (r2 c hc2).2, g3]
        have : vNx v p.1 t (sT p.2 t / 4) (6 + c) = 0 := by unfold vNx; rw [if_neg (by omega), if_pos (by omega)]
        rw [this]; exact rBit_nat
      · have hl := nxC_lt (s := sT p.2) (t := t) (x := x) s16 ht3
        subst e2
        unfold kC
        have ex : (txO G T v0 (dg p.1) t).2.2.toNatClampNeg = x := by rw [g3, cl (by omega)]
        show lN _ = lN (ccode z (pk6 (txV G T v0 (dg p.1) t)) (sT (qS (nxC (sT p.2) t (txO G T v0 (dg p.1) t).2.2.toNatClampNeg))))
        rw [ex, cc_s (fun u hu => sT_qS hl u hu)]
    · rw [tc, e1] at r1; exact absurd r1 (by decide)
  · rw [tc, e1]
    refine ⟨fun y => absurd rfl y, fun _ => ?_⟩
    unfold wp_X6_blockedBit
    rw [cc_bb ht3]
    show Q (lN (ccode z p.1 (sT p.2)) ||| lN (2 ^ 48 * (64 * (8 * 2 ^ t)))) m2
    rw [cc_block va s16 ht3 h40]
    refine hend _ ?_
    have hl := awS_16 (δ := 1) h40 (by omega) ht3
    subst e2
    unfold kC
    show lN _ = lN (ccode z p.1 (sT (qS (awSet (sT p.2) t (sT p.2 t + 1)))))
    rw [cc_s (fun u hu => sT_qS hl u hu)]
  · rw [tc]
    refine ⟨fun _ => ⟨fun _ => ?_, fun y => absurd y e1⟩, fun y => absurd y e1'⟩
    unfold wp_X6_failedBit
    rw [cc_fb ht3]
    show Q (lN (ccode z p.1 (sT p.2)) ||| lN (2 ^ 48 * (64 * 2 ^ t))) m2
    rw [cc_fail va s16 ht3 h40]
    refine hend _ ?_
    have hl := awS_16 (δ := 2) h40 (by omega) ht3
    subst e2
    unfold kC
    show lN _ = lN (ccode z p.1 (sT (qS (awSet (sT p.2) t (sT p.2 t + 2)))))
    rw [cc_s (fun u hu => sT_qS hl u hu)]
