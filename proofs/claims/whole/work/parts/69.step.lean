/-! ONE STEP, of the reference and of the class -/
theorem n2_0 : ¬ (2 : Int32) = 0 := by decide
theorem n3_0 : ¬ (3 : Int32) = 0 := by decide
theorem n4_0 : ¬ (4 : Int32) = 0 := by decide
def RWm (G : Prg) (T : Nat) (N : Nat → Nat) (D : Nat → Nat → Nat) (B : Nat) (u : Row) (t p : Nat) : Prop := (∀ c, c < 6 → V (u c)) ∧ (∀ c, c < 6 → ∃ q : Nat, q ≤ B ∧ u (6 + c) = nI q) ∧ (∃ n, rInvs u n) ∧ ((∀ s, s < T → s ≠ t → TW G u s (N s) (D s)) ∧ UR T u) ∧ TWm G u t (N t) (D t) p
theorem RWm_of {G : Prg} {T B t : Nat} {N : Nat → Nat} {D : Nat → Nat → Nat} {v : Row} (h : RWf G T N D B v) (ht : t < T) (h0 : v (rAt t) = 0) : ∃ p, RWm G T N D B v t p ∧ (p < N t ∨ N t = 0) := by
  obtain ⟨h1, h2, h3, h4, h5⟩ := h
  obtain ⟨⟨p, hp, hp2⟩, htv, hts⟩ := h4 t ht
  exact ⟨p, ⟨h1, h2, h3, ⟨fun s hs _ => h4 s hs, h5⟩, hp, htv, hts, h0⟩, hp2 h0⟩
theorem RWf_of {G : Prg} {T B t p : Nat} {N : Nat → Nat} {D : Nat → Nat → Nat} {v : Row} (h : RWm G T N D B v t p) (hp : p < N t ∨ N t = 0) : RWf G T N D B v := by
  obtain ⟨h1, h2, h3, h4, h5, h6, h7, h8⟩ := h
  refine ⟨h1, h2, h3, fun s hs => ?_, h4.2⟩
  by_cases e : s = t
  · subst e; exact ⟨⟨p, h5, fun _ => hp⟩, h6, h7⟩
  · exact h4.1 s hs e
theorem RWf_thr {G : Prg} {T B t p : Nat} {N : Nat → Nat} {D : Nat → Nat → Nat} {v v' : Row} (hs : PSs G T N D) (htT : t < T) (h : RWm G T N D B v t p) (hv : ∀ i, i < rAt t ∨ rAt t + 49 ≤ i → v' i = v i) (ht : TW G v' t (N t) (D t)) : RWf G T N D B v' := by
  have hr : rAt t = 25 + 49 * t := rfl
  obtain ⟨h1, h2, ⟨n, h3⟩, h4, -⟩ := h
  refine ⟨fun d hd => ?_, fun d hd => ?_, ⟨n, rInvs_move h3 fun i i1 i2 => hv i (by omega)⟩, fun s hs2 => ?_, fun u u1 u2 => (hv _ (by unfold rAt; omega)).trans (h4.2 u u1 u2)⟩
  · rw [hv _ (by omega)]; exact h1 d hd
  · rw [hv _ (by omega)]; exact h2 d hd
  · by_cases e : s = t
    · subst e; exact ht
    · exact TW_move (hs s hs2) (h4.1 s hs2 e) fun j hj => hv _ (by unfold rAt; omega)
theorem RWm_upd {G : Prg} {T B t p p' : Nat} {N : Nat → Nat} {D : Nat → Nat → Nat} {v u : Row} (hs : PSs G T N D) (htT : t < T) (h : RWm G T N D B v t p) (hv : ∀ i, i ≤ rAt t ∨ rAt t + 47 ≤ i → u i = v i) (hp : TPat G t (N t) (D t) u p') (htv : TV u t) : RWm G T N D B u t p' := by
  have hr : rAt t = 25 + 49 * t := rfl
  obtain ⟨h1, h2, ⟨n, h3⟩, h4, h5, h6, ⟨r, h7, h8, h9⟩, h10⟩ := h
  refine ⟨fun d hd => ?_, fun d hd => ?_, ⟨n, rInvs_move h3 fun i i1 i2 => hv i (by omega)⟩, ⟨fun s hs2 e => ?_, fun u u1 u2 => (hv _ (by unfold rAt; omega)).trans (h4.2 u u1 u2)⟩, hp, htv, ⟨r, h7, by rw [hv _ (by omega)]; exact h8, by rw [hv _ (by omega)]; exact h9⟩, by rw [hv _ (by omega)]; exact h10⟩
  · rw [hv _ (by omega)]; exact h1 d hd
  · rw [hv _ (by omega)]; exact h2 d hd
  · exact TW_move (hs s hs2) (h4.1 s hs2 e) fun j hj => hv _ (by unfold rAt; omega)
theorem commit_wf {G : Prg} {T B t p : Nat} {N : Nat → Nat} {D : Nat → Nat → Nat} {u : Row} {w : Int32} (hs : PSs G T N D) (ht : t < T) (h : RWm G T N D B u t p) : RWf G T N D (B + 6) (fCommit T u t w).2.1 := by
  obtain ⟨h1, h2, ⟨n, h3⟩, h4, h5, h6, h7, h8⟩ := id h
  unfold fCommit
  by_cases hv : rValid u t
  · rw [cif_t hv]
    by_cases hok : rInvOK u t (u 12).toNatClampNeg
    · rw [cif_t hok]
      refine RWf_grows hs (Nat.le_refl _) ?_
      have hr : rAt t = 25 + 49 * t := rfl
      have ea : ∀ i, 6 ≤ i → (i < rAt t ∨ rAt t + 48 ≤ i) → rAfter u t i = u i := fun i h1 h2 => by
        show rEnd (rPut u t 6) t _ _ i = _
        rw [rEnd_out h2]; exact if_neg (by omega)
      have e47 : rAfter u t (rAt t + 47) = rRuns u t := upd_same _ _ _
      have e0 : rAfter u t (rAt t) = (if rRuns u t = 0 then 2 else 0) := rEnd_0 (u := rPut u t 6)
      refine ⟨fun d hd => ?_, fun d hd => ?_, ⟨n, rInvs_move h3 fun i i1 i2 => ea i (by omega) (by omega)⟩, fun s hs2 => ?_, fun s s1 s2 => (ea _ (by unfold rAt; omega) (by unfold rAt; omega)).trans (h4.2 s s1 s2)⟩
      · have : rAfter u t d = rSees u t d := by
          show rEnd (rPut u t 6) t _ _ d = _
          rw [rEnd_out (by omega)]; exact if_pos hd
        rw [this]; exact TV_sees h6 h1 hd
      · rw [ea _ (by omega) (by omega)]; exact h2 d hd
      · by_cases e : s = t
        · subst e
          obtain ⟨r, hr1, hr2, hst⟩ := h7
          have hr0 : 0 < r := by
            rcases hst with z | z | z | z
            · exact z.2
            · exact z.2
            · rw [h8] at z; exact absurd z.1 (by decide)
            · rw [h8] at z; exact absurd z (by decide)
          have er : rRuns u s = nI (r - 1) := by
            unfold rRuns; rw [hr2]
            have := (by decide : ∀ k, k < 3 → nI (k + 1) - 1 = nI k) (r - 1) (by omega)
            rw [show r - 1 + 1 = r by omega] at this
            exact this
          refine TW_zero (hs s hs2) (fun j j1 j2 => ?_) ⟨r - 1, by omega, by rw [e47, er], ?_⟩
          · unfold rAfter rStop rBegin
            rw [upd_ne _ _ (by omega), upd_ne _ _ (by omega), if_pos (by omega)]
          · rw [e0, er]
            by_cases z : r - 1 = 0
            · rw [z]; exact Or.inr (Or.inr (Or.inl ⟨rfl, rfl⟩))
            · refine Or.inl ⟨if_neg fun z2 => z ((cmp_eq (by omega) (by decide : (0 : Nat) < 2 ^ 31)).mp z2), by omega⟩
        · exact TW_move (hs s hs2) (h4.1 s hs2 e) fun j hj => ea _ (by unfold rAt; omega) (by unfold rAt; omega)
    · rw [cif_f hok]
      exact (RWf_thr hs ht h (fun i hi => rStop_out (by omega)) (TW_stop (hs t ht) h7)).mono (by omega)
  · rw [cif_f hv]
    exact (RWf_thr hs ht h (fun i hi => rRestart_out (by omega)) (TW_restart (hs t ht) h7 h8)).mono (by omega)
/-- what a step comes to -/
theorem step_cases {G : Prg} {T B t : Nat} {N : Nat → Nat} {D : Nat → Nat → Nat} {v : Row} {w : Int32} (hs : PSs G T N D) (ht : t < T) (h : RWf G T N D B v) (hB : B < 2 ^ 29) (h0 : v (rAt t) = 0) :
    (∃ u p, RWm G T N D B u t p ∧ (∀ i, i ≤ rAt t ∨ rAt t + 47 ≤ i → u i = v i) ∧ ((p < N t ∧ (∃ p0, TPat G t (N t) (D t) v p0 ∧ p0 < p) ∧ fStep G T v t w = (0, u, w) ∧ 0 < N t ∧ fToken G v t w = (0, u, w)) ∨ (p = N t ∧ fStep G T v t w = fCommit T u t w ∧ ((N t = 0 ∧ u = v) ∨ (0 < N t ∧ fToken G v t w = (0, u, w)))))) ∨
    (0 < N t ∧ fStep G T v t w = fToken G v t w ∧ (fToken G v t w = (3, upd v (rAt t) 1, w) ∨ fToken G v t w = (2, rRestart v t, w) ∨ fToken G v t w = (4, rStop v t 3, w))) := by
  obtain ⟨p, hm, hp⟩ := RWm_of h ht h0
  have hn := (hs t ht).2.1
  have n6 := (hs t ht).1
  rcases Nat.eq_zero_or_pos (N t) with z | z
  · left
    have hg : G 1025 t = 0 := by rw [hn, z]; rfl
    have hpp : p = 0 := by have := hm.2.2.2.2.1.2.1; omega
    refine ⟨v, p, hm, fun i _ => rfl, Or.inr ⟨by omega, ?_, Or.inl ⟨z, rfl⟩⟩⟩
    unfold fStep fAfter
    rw [cif_t hg, cif_t ⟨rfl, by show v (rAt t + 1) = _; rw [hg, hm.2.2.2.2.1.1, hpp]; rfl⟩]
  · have hg : ¬ G 1025 t = 0 := by
      rw [hn]; exact fun q => by have := (cmp_eq (by omega) (by decide : (0 : Nat) < 2 ^ 31)).mp q; omega
    have hpn : p < N t := by omega
    have hver : ∀ c, c < 6 → ∃ q : Nat, q < 2 ^ 29 ∧ v (6 + c) = nI q := fun c hc => by obtain ⟨q, q1, q2⟩ := hm.2.1 c hc; exact ⟨q, by omega, q2⟩
    have ef : fStep G T v t w = fAfter G T t (fToken G v t w) := by unfold fStep; rw [cif_f hg]
    rcases tok_out (w := w) (hs t ht) hm.2.2.2.2 hpn hm.1 hver with ⟨u, e, ⟨p', hp1, hp2⟩, htv, hag⟩ | e | e | e
    · left
      refine ⟨u, p', RWm_upd hs ht hm hag hp2 htv, hag, ?_⟩
      rw [ef, e]
      by_cases ep : p' < N t
      · refine Or.inl ⟨ep, ⟨p, hm.2.2.2.2.1, hp1⟩, ?_, z, rfl⟩
        unfold fAfter
        refine cif_f fun q => ?_
        have := q.2
        simp only [hp2.1, hn] at this
        have := (cmp_eq (by omega) (by omega)).mp this
        omega
      · have : p' = N t := by have := hp2.2.1; omega
        refine Or.inr ⟨this, ?_, Or.inr ⟨z, rfl⟩⟩
        unfold fAfter
        rw [cif_t ⟨rfl, by simp only [hp2.1, hn, this]⟩]
    · right
      refine ⟨z, ?_, Or.inl e⟩
      rw [ef, e]; unfold fAfter; exact cif_f (fun q => n3_0 q.1)
    · right
      refine ⟨z, ?_, Or.inr (Or.inl e)⟩
      rw [ef, e]; unfold fAfter; exact cif_f (fun q => n2_0 q.1)
    · right
      refine ⟨z, ?_, Or.inr (Or.inr e)⟩
      rw [ef, e]; unfold fAfter; exact cif_f (fun q => n4_0 q.1)
theorem step_wf {G : Prg} {T B t : Nat} {N : Nat → Nat} {D : Nat → Nat → Nat} {v : Row} {w : Int32} (hs : PSs G T N D) (ht : t < T) (h : RWf G T N D B v) (hB : B < 2 ^ 29) (h0 : v (rAt t) = 0) : RWf G T N D (B + 6) (fStep G T v t w).2.1 := by
  rcases step_cases (w := w) hs ht h hB h0 with ⟨u, p, hm, hag, ⟨hp, -, e, -⟩ | ⟨hp, e, -⟩⟩ | ⟨-, ef, e⟩
  · rw [e]; exact (RWf_of hm (Or.inl hp)).mono (by omega)
  · rw [e]; exact commit_wf hs ht hm
  · obtain ⟨p, hm, hp⟩ := RWm_of h ht h0
    obtain ⟨h5, h6, h7, h8⟩ := hm.2.2.2.2
    rw [ef]
    rcases e with e | e | e
    · rw [e]
      refine (RWf_thr hs ht hm (fun i hi => upd_ne _ _ (by omega)) ?_).mono (by omega)
      obtain ⟨r, hr1, hr2, hst⟩ := h7
      refine ⟨⟨p, TPat_move h5 ((hs t ht).2.2.2.2.1 p h5.2.1) fun j j1 j2 => upd_ne _ _ (by omega), fun z => ?_⟩, TV_zero h6 fun j j1 j2 => Or.inl (upd_ne _ _ (by omega)), r, hr1, ?_, Or.inr (Or.inl ⟨upd_same _ _ _, ?_⟩)⟩
      · exact hp
      · show upd v (rAt t) 1 (rAt t + 47) = _
        rw [upd_ne _ _ (by omega)]; exact hr2
      · rcases hst with z | z | z | z
        · exact z.2
        · exact z.2
        · rw [h8] at z; exact absurd z.1 (by decide)
        · rw [h8] at z; exact absurd z (by decide)
    · rw [e]
      exact (RWf_thr hs ht hm (fun i hi => rRestart_out (by omega)) (TW_restart (hs t ht) h7 h8)).mono (by omega)
    · rw [e]
      exact (RWf_thr hs ht hm (fun i hi => rStop_out (by omega)) (TW_stop (hs t ht) h7)).mono (by omega)
theorem RWm_TR {G : Prg} {T B t p : Nat} {N : Nat → Nat} {D : Nat → Nat → Nat} {u : Row} (hs : PSs G T N D) (ht : t < T) (h : RWm G T N D B u t p) : ∀ s, s < T → TR u s := by
  intro s hs2
  by_cases e : s = t
  · subst e
    obtain ⟨h5, h6, h7, h8⟩ := h.2.2.2.2
    refine ⟨fun c hc => ?_, ?_⟩
    · obtain ⟨q, hq, e⟩ := h6.2.2 (3 + c) (by unfold redJ; omega)
      rw [Nat.add_assoc, e]
      by_cases z : q = 0
      · subst z; exact Or.inl rfl
      · exact Or.inr (fun z2 => z (by have := (cmp_le (by omega) (by decide : (0 : Nat) < 2 ^ 31)).mp z2; omega))
    · have := (hs s hs2).2.2.2.2.1 p h5.2.1
      rw [h5.2.2.1, cl (by omega)]; exact this
  · exact TW_TR (hs s hs2) (h.2.2.2.1.1 s hs2 e)
theorem TokOK_of {G : Prg} {T B t p : Nat} {N : Nat → Nat} {D : Nat → Nat → Nat} {v : Row} (hs : PSs G T N D) (ht : t < T) (h : RWm G T N D B v t p) (hpn : p < N t) (hB : B < 2 ^ 29) : TokOK G v t (N t) p (D t p) := by
  obtain ⟨h1, h2, -, -, h5, h6, -, -⟩ := h
  have hst := hs t ht
  refine ⟨h5.1, hpn, hst.1, h5.2.2.1, hst.2.2.2.2.1 p (by omega), fun k hk z => ?_, fun z => (TP_open hst h5 hpn z).1, fun z => ?_, h6.2.1 9 (Or.inl rfl), fun c hc => ?_⟩
  · obtain ⟨q, c, hq, hT, -, -, -, -, -, -, -, -, -, -, ho⟩ := Op_facts hst (h5.2.2.2 k hk)
    rw [hT] at z
    rcases ho with y | y
    · exact y.2
    · rw [z] at y; exact absurd y.1 (by decide)
  · rcases z with z | z | z
    · exact (TP_close hst h5 hpn (Or.inl z)).1
    · exact (TP_close hst h5 hpn (Or.inr z)).1
    · exact (TP_bar hst h5 hpn z).1
  · obtain ⟨q, q1, q2⟩ := h2 c hc
    rw [q2, nI_ofNat 1, nI_add]
    exact fun z => by have := (cmp_eq (by omega) (by decide : (0 : Nat) < 2 ^ 31)).mp z; omega
/-- the reference's step -/
theorem r_step {G : Prg} {A t T B : Nat} {N : Nat → Nat} {D : Nat → Nat → Nat} {Q : Int32 → ct_M → Prop} {m : ct_M} (hA : ct_ln A = 172) (hA2 : 1029 < A) (hG : HasP G m) (hT : T ≤ 3) (hth : m.1 1023 4 = nI T) (hs : PSs G T N D) (ht : t < T) (hf : RWf G T N D B (m.1 A)) (hB : B < 2 ^ 29) (h0 : m.1 A (rAt t) = 0)
    (h : Q (fStep G T (m.1 A) t (m.1 1023 29)).1 (pr (ct_st m 1023 29 (fStep G T (m.1 A) t (m.1 1023 29)).2.2) A (fStep G T (m.1 A) t (m.1 1023 29)).2.1)) : wp_X12_stepOn 1023 A (nI t) Q m := by
  obtain ⟨p, hm, hp⟩ := RWm_of hf ht h0
  obtain ⟨-, -, hi, -, h5, -⟩ := id hm
  have hst := hs t ht
  have n6 := hst.1
  have d3 := hst.2.2.2.2.1 p h5.2.1
  refine f_step hA hA2 hG hth ⟨by omega, hT, N t, p, D t p, hst.1, hst.2.1, h5.1, ?_, ⟨h5.2.2.1, d3, fun k hk => ?_⟩, hst.2.2.1, fun hn hl => ?_⟩ ⟨fun _ => hi, fun hg e => ?_⟩ h
  · rcases hp with z | z
    · exact Or.inl z
    · exact Or.inr ⟨z, by have := h5.2.1; omega⟩
  · obtain ⟨q, c, hq, -, -, hqn, -⟩ := Op_facts hst (h5.2.2.2 k hk)
    exact ⟨q, by omega, hq⟩
  · exact (TP_open hst h5 (by omega) hl).1
  · rcases step_cases (w := m.1 1023 29) hs ht hf hB h0 with ⟨u, p', hm', hag, ⟨hp', -, -, -, e2⟩ | ⟨hp', -, ⟨z, -⟩ | ⟨-, e2⟩⟩⟩ | ⟨-, -, e2⟩
    · rw [e2]
      exact ⟨hm'.2.2.1, p', by omega, hm'.2.2.2.2.1.1⟩
    · exact absurd (by rw [hst.2.1, z]; rfl) hg
    · rw [e2]
      exact ⟨hm'.2.2.1, p', by omega, hm'.2.2.2.2.1.1⟩
    · rcases e2 with e2 | e2 | e2 <;> rw [e2] at e
      · exact absurd e n3_0
      · exact absurd e n2_0
      · exact absurd e n4_0
