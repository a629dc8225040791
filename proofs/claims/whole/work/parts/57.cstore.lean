/-! the class: invariants, storing -/
def RWv (m : ct_M) (b : Nat) (v : Row) : Prop := (∀ c, c < 6 → m.1 (b + 1) c = v c) ∧ (∀ c, c < 6 → m.1 (b + 2) c = v (6 + c))
def RWi (m : ct_M) (b : Nat) (v : Row) : Prop := m.1 b 7 = v 12 ∧ ∃ n : Nat, rInvs v n ∧ ∀ k, k < n → m.1 (b + 4) k = v (13 + 3 * k) ∧ m.1 (b + 5) k = v (13 + 3 * k + 1) ∧ m.1 (b + 6) k = v (13 + 3 * k + 2)
/-- the class's world b is the row v, of T threads -/
def RW (G : Prg) (m : ct_M) (b : Nat) (v : Row) (T : Nat) : Prop := RWv m b v ∧ m.1 b 3 = nI T ∧ RWi m b v ∧ ∀ t, t < T → Rk G m (b + 7 + 15 * t) v t
theorem c_invs {b w t n : Nat} {v : Row} {Q : Int32 → ct_M → Prop} {m : ct_M} (hb : ct_K 10 b) (hw : WL w) (hv : ∀ c, c < 6 → m.1 (b + 1) c = v c) (hi : RWi m b v) (hn : rInvs v n) (hr : RkW m w v t) (h1 : rInvOK v t n → Q 1 m) (h0 : ¬ rInvOK v t n → Q 0 m) : wp_X10_invariantsWouldHold b w Q m := by
  obtain ⟨l1, l2, l3, l4, l5, l6⟩ := w_len hb
  obtain ⟨i7, n', hn', hk⟩ := hi
  have hnn : n' = n := by
    have := hn'.1.symm.trans hn.1
    exact (cmp_eq (by have := hn'.2.1; omega) (by have := hn.2.1; omega)).mp this
  subst hnn
  obtain ⟨v12, hn4, hij⟩ := hn
  have loop : ∀ (k j : Nat), j + k = n' → (∀ q, q < j → v (13 + 3 * q + 2) ≤ rSees v t (v (13 + 3 * q)).toNatClampNeg + rSees v t (v (13 + 3 * q + 1)).toNatClampNeg) → wb_X10_invariantsWouldHold_2 Q (k + 1) b w (nI j) m := by
    intro k
    induction k with
    | zero =>
      intro j hj hp
      have : j = n' := by omega
      subst this
      unfold wb_X10_invariantsWouldHold_2
      simp (disch := omega) only [nI_ofNat, cmp_le, i7, v12]
      exact ⟨fun _ => h1 hp, fun e => absurd (Nat.le_refl _) e⟩
    | succ k ih =>
      intro j hj hp
      obtain ⟨i1, j1, hi1, hj1, e1, e2⟩ := hij j (by omega)
      obtain ⟨f1, f2, f3⟩ := hk j (by omega)
      unfold wb_X10_invariantsWouldHold_2
      simp (disch := omega) only [nI_ofNat, cmp_le, i7, v12, vp_nI, cl, l4, l5, l6, f1, f2, f3, e1, e2]
      refine ⟨fun e => absurd e (by omega), fun _ => ⟨fun e => absurd e (by omega), fun _ => ⟨by omega, ?_⟩⟩⟩
      refine c_value l1 hw hi1 (hv _ hi1) hr ?_
      refine ⟨by omega, ?_⟩
      rw [f2, e2]
      refine c_value l1 hw hj1 (hv _ hj1) hr ?_
      rw [f3]
      refine ⟨by omega, fun e => ?_, fun e => ?_⟩
      · intro x hx
        rw [hx, nI_add]
        refine ih (j + 1) (by omega) (fun q hq2 => ?_)
        by_cases eq : q = j
        · subst eq; rw [e1, e2, cl (by omega), cl (by omega)]; exact e
        · exact hp q (by omega)
      · refine h0 fun hall => e ?_
        have := hall j (by omega)
        rw [e1, e2, cl (by omega), cl (by omega)] at this
        exact this
  exact ⟨n' + 1, loop n' 0 (by omega) (fun c hc => absurd hc (by omega))⟩
theorem rStop_out {v : Row} {t i : Nat} {how : Int32} (h : i < rAt t ∨ rAt t + 47 ≤ i) : rStop v t how i = v i := by
  unfold rStop rBegin; rw [upd_ne _ _ (by omega), if_neg (by omega)]
theorem rRestart_out {v : Row} {t i : Nat} (h : i < rAt t ∨ rAt t + 49 ≤ i) : rRestart v t i = v i := by
  unfold rRestart; rw [upd_ne _ _ (by omega), rStop_out (by omega)]
theorem rWake_out {v : Row} {c t i : Nat} (h : i < rAt t ∨ rAt t + 49 ≤ i) : rWake v c t i = v i := by
  unfold rWake
  by_cases e : v (rAt t) = 1 ∧ ¬ v (rAt t + 3 + c) ≤ 0
  · rw [if_pos e, rRestart_out h]
  · rw [if_neg e]
theorem rGrow_out {v : Row} {c T i : Nat} (h : i < 25) (h2 : i ≠ 6 + c) : rGrow v c T i = v i := by
  induction T with
  | zero => exact upd_ne _ _ h2
  | succ T ih => unfold rGrow; rw [rWake_out (by unfold rAt; omega)]; exact ih
theorem rGrow_own {v : Row} {c T : Nat} (hc : c < 6) : rGrow v c T (6 + c) = v (6 + c) + 1 := by
  induction T with
  | zero => exact upd_same _ _ _
  | succ T ih => unfold rGrow; rw [rWake_out (by unfold rAt; omega)]; exact ih
theorem rGrow_thread {v : Row} {c T t i : Nat} (hc : c < 6) (h : T ≤ t) (h2 : rAt t ≤ i) : rGrow v c T i = v i := by
  induction T with
  | zero => exact upd_ne _ _ (by unfold rAt at h2; omega)
  | succ T ih => unfold rGrow; rw [rWake_out (by unfold rAt at h2 ⊢; omega)]; exact ih (by omega)
theorem rRestart_mid {v : Row} {t j : Nat} (h1 : 1 ≤ j) (h2 : j < 47) : rRestart v t (rAt t + j) = 0 := by
  unfold rRestart rStop rBegin; rw [upd_ne _ _ (by omega), upd_ne _ _ (by omega), if_pos (by omega)]
theorem rWake_mid {v : Row} {c s t j : Nat} (h1 : 1 ≤ j) (h2 : j < 47) : rWake v c s (rAt t + j) = v (rAt t + j) ∨ rWake v c s (rAt t + j) = 0 := by
  by_cases e : s = t
  · subst e
    unfold rWake
    by_cases e : v (rAt s) = 1 ∧ ¬ v (rAt s + 3 + c) ≤ 0
    · rw [if_pos e]; exact Or.inr (rRestart_mid h1 h2)
    · rw [if_neg e]; exact Or.inl rfl
  · exact Or.inl (rWake_out (by unfold rAt; omega))
theorem rGrow_mid {v : Row} {c T t j : Nat} (hc : c < 6) (h1 : 1 ≤ j) (h2 : j < 47) : rGrow v c T (rAt t + j) = v (rAt t + j) ∨ rGrow v c T (rAt t + j) = 0 := by
  induction T with
  | zero => exact Or.inl (upd_ne _ _ (by unfold rAt; omega))
  | succ T ih =>
    unfold rGrow
    rcases rWake_mid (v := rGrow v c T) (c := c) (s := T) (t := t) h1 h2 with e | e
    · rw [e]; exact ih
    · exact Or.inr e
/-- what the reads of a thread are -/
def TR (v : Row) (t : Nat) : Prop := (∀ c, c < 6 → v (rAt t + 3 + c) = 0 ∨ ¬ v (rAt t + 3 + c) ≤ 0) ∧ (v (rAt t + 16)).toNatClampNeg ≤ 3
theorem TR_grow {v : Row} {c T t : Nat} (hc : c < 6) (h : TR v t) : TR (rGrow v c T) t := by
  refine ⟨fun d hd => ?_, ?_⟩
  · rw [show rAt t + 3 + d = rAt t + (3 + d) by omega]
    rcases rGrow_mid (v := v) (T := T) (t := t) (j := 3 + d) hc (by omega) (by omega) with e | e
    · have := h.1 d hd
      rw [Nat.add_assoc] at this
      rw [e]; exact this
    · exact Or.inl e
  · rcases rGrow_mid (v := v) (T := T) (t := t) (j := 16) hc (by omega) (by omega) with e | e
    · rw [e]; exact h.2
    · rw [e]; decide
theorem TR_move {v v' : Row} {t : Nat} (h : TR v t) (hv : ∀ i, rAt t ≤ i → i < rAt t + 49 → v' i = v i) : TR v' t := by
  refine ⟨fun d hd => ?_, ?_⟩
  · rw [hv _ (by omega) (by omega)]; exact h.1 d hd
  · rw [hv _ (by omega) (by omega)]; exact h.2
theorem RW_inv {G : Prg} {m : ct_M} {b T : Nat} {v : Row} (h : RW G m b v T) : ∃ n, rInvs v n := ⟨_, h.2.2.1.2.choose_spec.1⟩
theorem RWi_move {m m' : ct_M} {b : Nat} {v v' : Row} (h : RWi m b v) (h0 : m'.1 b 7 = m.1 b 7) (hm : ∀ q, b + 4 ≤ q → q < b + 7 → m'.1 q = m.1 q) (hv : ∀ i, 12 ≤ i → i < 25 → v' i = v i) : RWi m' b v' := by
  obtain ⟨i7, n, ⟨v12, n4, hij⟩, hk⟩ := h
  refine ⟨by rw [h0, hv 12 (by omega) (by omega)]; exact i7, n, ⟨by rw [hv 12 (by omega) (by omega)]; exact v12, n4, fun k hk2 => ?_⟩, fun k hk2 => ?_⟩
  · rw [hv _ (by omega) (by omega), hv _ (by omega) (by omega)]; exact hij k hk2
  · rw [hm _ (by omega) (by omega), hm _ (by omega) (by omega), hm _ (by omega) (by omega), hv _ (by omega) (by omega), hv _ (by omega) (by omega), hv _ (by omega) (by omega)]
    exact hk k hk2
theorem c_store {G : Prg} {b T c : Nat} {x : Int32} {v : Row} {Q : ct_M → Prop} {m : ct_M} (hb : ct_K 10 b) (hT : T ≤ 3) (hc : c < 6) (hw : RW G m b v T) (hr : ∀ t, t < T → TR v t)
    (h : ∀ m', Fr m m' b (b + 52) → RW G m' b (rGrow (upd v c x) c T) T → Q m') : wp_X10_store b (nI c) x Q m := by
  obtain ⟨l1, l2, l3, l4, l5, l6⟩ := w_len hb
  have loop : ∀ (k j : Nat) (m1 : ct_M), j + k = T → Fr m m1 b (b + 52) → RW G m1 b (rGrow (upd v c x) c j) T → wb_X10_store_27 Q (k + 1) b (nI c) (nI j) m1 := by
    intro k
    induction k with
    | zero =>
      intro j m1 hj f1 r1
      have : j = T := by omega
      subst this
      unfold wb_X10_store_27
      simp (disch := omega) only [nI_ofNat, cmp_le, r1.2.1]
      exact ⟨fun _ => h m1 f1 r1, fun e => absurd (Nat.le_refl _) e⟩
    | succ k ih =>
      intro j m1 hj f1 r1
      have hrt : rAt j = 25 + 49 * j := rfl
      have rk := r1.2.2.2 j (by omega)
      have g : ∀ i, rAt j ≤ i → i < rAt j + 49 → rGrow (upd v c x) c j i = v i := fun i h1 h2 => by
        rw [rGrow_thread hc (Nat.le_refl _) h1, upd_ne _ _ (by omega)]
      have same : ¬ (m1.1 (b + 7 + 15 * j) 1 = 1 ∧ bitSet (m1.1 (b + 7 + 15 * j + 1) 0) c) → wb_X10_store_78 (wb_X10_store_27 Q (k + 1)) Q b (nI c) (nI j) m1 := by
        intro hn
        unfold wb_X10_store_78
        intro y hy
        rw [hy, nI_ofNat 1, nI_add]
        refine ih (j + 1) m1 (by omega) f1 ?_
        have e : rGrow (upd v c x) c (j + 1) = rGrow (upd v c x) c j := if_neg fun z => hn ⟨by rw [rk.1.1]; exact z.1, (rk.2.1.2 c hc).1.mpr fun z2 => z.2 (by rw [z2]; decide)⟩
        rw [e]; exact r1
      unfold wb_X10_store_27
      simp (disch := omega) only [nI_ofNat, cmp_le, vp_nI, cl, l3, r1.2.1]
      refine ⟨fun e => absurd e (by omega), fun _ => ⟨fun e => absurd e (by omega), fun _ => ⟨by omega, fun e => same fun z => e z.1, fun e => ⟨by omega, ?_⟩⟩⟩⟩
      refine c_holds (fun hs => ?_) (fun hs => ⟨fun _ => same fun z => hs z.2, fun e => absurd rfl e⟩)
      refine ⟨fun e => absurd e (by decide), fun _ => ⟨by omega, ?_⟩⟩
      refine c_startAgain (fun m2 f2 e1 e2 e3 => ?_)
      have rk2 := Rk_restart rk e1 e2 e3
      unfold wb_X10_store_78
      intro y hy
      rw [hy, nI_ofNat 1, nI_add]
      have nz := (rk.2.1.2 c hc).1.mp hs
      have gz : rGrow (upd v c x) c j (rAt j + 3 + c) = v (rAt j + 3 + c) := g _ (by omega) (by omega)
      have e : rGrow (upd v c x) c (j + 1) = rRestart (rGrow (upd v c x) c j) j := if_pos ⟨by rw [← rk.1.1]; exact e, fun z => by
        rw [gz] at z nz
        exact ((hr j (by omega)).1 c hc).elim nz (fun q => q z)⟩
      have ff : Fr m1 m2 b (b + 52) := f2.mono (by omega) (by omega)
      refine ih (j + 1) m2 (by omega) (f1.tr ff) ?_
      rw [e]
      refine ⟨⟨fun c1 h1 => ?_, fun c1 h1 => ?_⟩, ?_, ?_, fun t ht => ?_⟩
      · rw [f2.2 _ (by omega), rRestart_out (by omega)]; exact r1.1.1 c1 h1
      · rw [f2.2 _ (by omega), rRestart_out (by omega)]; exact r1.1.2 c1 h1
      · rw [f2.2 _ (by omega)]; exact r1.2.1
      · exact RWi_move r1.2.2.1 (by rw [f2.2 _ (by omega)]) (fun q q1 q2 => f2.2 _ (by omega)) (fun i i1 i2 => rRestart_out (by omega))
      · by_cases et : t = j
        · subst et; exact rk2
        · refine (r1.2.2.2 t ht).move (fun q q1 q2 => f2.2 _ (by omega)) (fun i i1 i2 => rRestart_out (by unfold rAt at i1 i2 ⊢; omega)) ?_
          exact (TR_grow hc (TR_move (hr t ht) fun i i1 i2 => upd_ne _ _ (by unfold rAt at i1; omega))).2
  unfold wp_X10_store
  refine c_isCell hc ⟨fun _ => ?_, fun e => absurd e (by decide)⟩
  simp (disch := omega) only [vp_nI, cl, fa_eq, l1, l2]
  refine ⟨by omega, by omega, by omega, T + 1, ?_⟩
  refine loop T 0 _ (by omega) ((Fr.st (by omega) (by omega)).tr (Fr.st (by omega) (by omega))) ?_
  have hv7 : ∀ i, i < 25 → i ≠ c → i ≠ 6 + c → rGrow (upd v c x) c 0 i = v i := fun i _ h1 h2 => by
    show upd (upd v c x) _ _ i = _
    rw [upd_ne _ _ h2, upd_ne _ _ h1]
  have l0 : ∀ i, i ≠ 6 + c → rGrow (upd v c x) c 0 i = upd v c x i := fun i h1 => upd_ne _ _ h1
  refine ⟨⟨fun c1 h1 => ?_, fun c1 h1 => ?_⟩, ?_, ?_, fun t ht => ?_⟩
  · rw [ct_st_ne (by omega), l0 _ (by omega), ct_st_eq]
    by_cases e : c1 = c
    · subst e; rw [upd_same, upd_same]
    · rw [upd_ne _ _ e, upd_ne _ _ e]; exact hw.1.1 c1 h1
  · rw [ct_st_eq, ct_st_ne (by omega)]
    by_cases e : c1 = c
    · subst e
      rw [upd_same, rGrow_own hc, upd_ne _ _ (by omega), hw.1.2 c1 h1]
    · rw [upd_ne _ _ e, hv7 _ (by omega) (by omega) (by omega)]; exact hw.1.2 c1 h1
  · rw [ct_st_ne (by omega), ct_st_ne (by omega)]; exact hw.2.1
  · exact RWi_move hw.2.2.1 (by rw [ct_st_ne (by omega), ct_st_ne (by omega)]) (fun q q1 q2 => by rw [ct_st_ne (by omega), ct_st_ne (by omega)]) (fun i i1 i2 => hv7 i i2 (by omega) (by omega))
  · refine (hw.2.2.2 t ht).move (fun q q1 q2 => by rw [ct_st_ne (by omega), ct_st_ne (by omega)]) (fun i i1 i2 => ?_) (hr t ht).2
    rw [rGrow_thread hc (Nat.zero_le _) (by unfold rAt at i1 ⊢; omega), upd_ne _ _ (by unfold rAt at i1; omega)]
