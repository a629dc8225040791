/-! rows: all that they hold, and that a step keeps it -/
def TS (v : Row) (t : Nat) : Prop := ∃ r : Nat, r ≤ 2 ∧ v (rAt t + 47) = nI r ∧ ((v (rAt t) = 0 ∧ 0 < r) ∨ (v (rAt t) = 1 ∧ 0 < r) ∨ (v (rAt t) = 2 ∧ r = 0) ∨ v (rAt t) = 3)
def TW (G : Prg) (v : Row) (t n : Nat) (dp : Nat → Nat) : Prop := (∃ p, TPat G t n dp v p ∧ (v (rAt t) = 0 → p < n ∨ n = 0)) ∧ TV v t ∧ TS v t
def UR (T : Nat) (v : Row) : Prop := ∀ u, T ≤ u → u < 3 → v (rAt u + 47) = 0
def RWf (G : Prg) (T : Nat) (N : Nat → Nat) (D : Nat → Nat → Nat) (B : Nat) (v : Row) : Prop := (∀ c, c < 6 → V (v c)) ∧ (∀ c, c < 6 → ∃ q : Nat, q ≤ B ∧ v (6 + c) = nI q) ∧ (∃ n, rInvs v n) ∧ (∀ t, t < T → TW G v t (N t) (D t)) ∧ UR T v
def PSs (G : Prg) (T : Nat) (N : Nat → Nat) (D : Nat → Nat → Nat) : Prop := ∀ t, t < T → PS G t (N t) (D t)
theorem RWf.mono {G : Prg} {T : Nat} {N : Nat → Nat} {D : Nat → Nat → Nat} {B B' : Nat} {v : Row} (h : RWf G T N D B v) (hB : B ≤ B') : RWf G T N D B' v :=
  ⟨h.1, fun c hc => by obtain ⟨q, h1, h2⟩ := h.2.1 c hc; exact ⟨q, by omega, h2⟩, h.2.2⟩
theorem TPat_move {G : Prg} {t n p : Nat} {dp : Nat → Nat} {v v' : Row} (h : TPat G t n dp v p) (hk : dp p ≤ 3) (hv : ∀ j, 1 ≤ j → j < 47 → v' (rAt t + j) = v (rAt t + j)) : TPat G t n dp v' p := by
  obtain ⟨hp, hpn, hc, ho⟩ := h
  refine ⟨by rw [hv 1 (by omega) (by omega)]; exact hp, hpn, by rw [hv 16 (by omega) (by omega)]; exact hc, fun k hk2 => ?_⟩
  have e0 : v' (rB t k) = v (rB t k) := by
    have := hv (17 + 10 * k) (by omega) (by omega)
    rw [show rB t k = rAt t + (17 + 10 * k) by unfold rB; omega]; exact this
  have e1 : v' (rB t k + 1) = v (rB t k + 1) := by
    have := hv (18 + 10 * k) (by omega) (by omega)
    rw [show rB t k + 1 = rAt t + (18 + 10 * k) by unfold rB; omega]; exact this
  obtain ⟨q, c, h1, h2, h3, h4, h5, h6, h7⟩ := ho k hk2
  exact ⟨q, c, by rw [e0]; exact h1, h2, h3, h4, h5, h6, by rw [e1]; exact h7⟩
theorem TW_move {G : Prg} {t n : Nat} {dp : Nat → Nat} {v v' : Row} (hs : PS G t n dp) (h : TW G v t n dp) (hv : ∀ j, j < 48 → v' (rAt t + j) = v (rAt t + j)) : TW G v' t n dp := by
  obtain ⟨⟨p, hp, hp2⟩, htv, ⟨r, hr, hr2, hst⟩⟩ := h
  have e0 : v' (rAt t) = v (rAt t) := hv 0 (by omega)
  refine ⟨⟨p, TPat_move hp (hs.2.2.2.2.1 p hp.2.1) fun j h1 h2 => hv j (by omega), by rw [e0]; exact hp2⟩, TV_zero htv fun j h1 h2 => Or.inl (hv j (by omega)), r, hr, by rw [hv 47 (by omega)]; exact hr2, by rw [e0]; exact hst⟩
theorem TPat_zero {G : Prg} {t n : Nat} {dp : Nat → Nat} {v : Row} (hs : PS G t n dp) (h1 : v (rAt t + 1) = 0) (h2 : v (rAt t + 16) = 0) : TPat G t n dp v 0 := by
  have d0 := hs.2.2.2.1
  exact ⟨h1, by omega, by rw [h2, d0]; rfl, fun k hk => by omega⟩
theorem TW_zero {G : Prg} {t n : Nat} {dp : Nat → Nat} {v : Row} (hs : PS G t n dp) (hz : ∀ j, 1 ≤ j → j < 47 → v (rAt t + j) = 0) (hst : TS v t) : TW G v t n dp := by
  refine ⟨⟨0, TPat_zero hs (hz 1 (by omega) (by omega)) (hz 16 (by omega) (by omega)), fun _ => by omega⟩, ⟨fun j hj => ?_, fun j hj => ?_, fun j hj => ?_⟩, hst⟩
  · rw [hz j (by unfold valJ at hj; omega) (by unfold valJ at hj; omega)]; exact V0
  · rw [hz j (by unfold mskJ at hj; omega) (by unfold mskJ at hj; omega)]; exact ⟨0, by decide, rfl⟩
  · rw [hz j (by unfold redJ at hj; omega) (by unfold redJ at hj; omega)]; exact ⟨0, by decide, rfl⟩
theorem TW_TR {G : Prg} {t n : Nat} {dp : Nat → Nat} {v : Row} (hs : PS G t n dp) (h : TW G v t n dp) : TR v t := by
  obtain ⟨⟨p, hp, -⟩, htv, -⟩ := h
  refine ⟨fun c hc => ?_, ?_⟩
  · obtain ⟨q, hq, e⟩ := htv.2.2 (3 + c) (by unfold redJ; omega)
    rw [Nat.add_assoc, e]
    by_cases z : q = 0
    · subst z; exact Or.inl rfl
    · exact Or.inr (fun z2 => z (by have := (cmp_le (by omega) (by decide : (0 : Nat) < 2 ^ 31)).mp z2; omega))
  · have := hs.2.2.2.2.1 p hp.2.1
    rw [hp.2.2.1, cl (by omega)]; exact this
theorem rInvs_move {v v' : Row} {n : Nat} (h : rInvs v n) (hv : ∀ i, 12 ≤ i → i < 25 → v' i = v i) : rInvs v' n := by
  obtain ⟨h1, h2, h3⟩ := h
  refine ⟨by rw [hv _ (by omega) (by omega)]; exact h1, h2, fun k hk => ?_⟩
  rw [hv _ (by omega) (by omega), hv _ (by omega) (by omega)]; exact h3 k hk
theorem RWf_grow {G : Prg} {T c B : Nat} {N : Nat → Nat} {D : Nat → Nat → Nat} {v : Row} (hs : PSs G T N D) (hc : c < 6) (h : RWf G T N D B v) : RWf G T N D (B + 1) (rGrow v c T) := by
  obtain ⟨h1, h2, ⟨n, h3⟩, h4, h5⟩ := h
  refine ⟨fun d hd => ?_, fun d hd => ?_, ⟨n, rInvs_move h3 fun i i1 i2 => rGrow_out i2 (by omega)⟩, fun t ht => ?_, fun u u1 u2 => (rGrow_off hc (fun z => absurd z.1 (by omega)) (by omega)).trans (h5 u u1 u2)⟩
  · rw [rGrow_out (by omega) (by omega)]; exact h1 d hd
  · obtain ⟨q, hq, e⟩ := h2 d hd
    rw [rGrow_lo (by omega), e]
    split
    · exact ⟨q + 1, by omega, by rw [nI_ofNat 1, nI_add]⟩
    · exact ⟨q, by omega, rfl⟩
  · by_cases hw : t < T ∧ Woken v c t
    · refine TW_zero (hs t ht) (fun j j1 j2 => by rw [rGrow_on hc hw.1 hw.2 (by omega), if_neg (by omega), if_neg (by omega)]) ?_
      obtain ⟨-, -, ⟨r, hr, hr2, hst⟩⟩ := h4 t ht
      have e0 : rGrow v c T (rAt t) = 0 := by
        rw [show rAt t = rAt t + 0 from rfl, rGrow_on hc hw.1 hw.2 (by omega), if_neg (by omega), if_neg (by omega)]
      refine ⟨r, hr, by rw [rGrow_on hc hw.1 hw.2 (by omega), if_neg (by omega), if_pos rfl]; exact hr2, Or.inl ⟨e0, ?_⟩⟩
      have := hw.2.1
      rcases hst with z | z | z | z
      · exact z.2
      · exact z.2
      · rw [this] at z; exact absurd z.1 (by decide)
      · rw [this] at z; exact absurd z (by decide)
    · exact TW_move (hs t ht) (h4 t ht) fun j hj => rGrow_off hc hw (by omega)
theorem RWf_grows {G : Prg} {T j B : Nat} {N : Nat → Nat} {D : Nat → Nat → Nat} {v : Row} {W : Int32} (hs : PSs G T N D) (hj : j ≤ 6) (h : RWf G T N D B v) : RWf G T N D (B + j) (rGrows W T v j) := by
  induction j with
  | zero => exact h
  | succ j ih =>
    unfold rGrows
    by_cases hb : bitSet W j
    · rw [if_pos hb]; exact RWf_grow hs (by omega) (ih (by omega))
    · rw [if_neg hb]; exact (ih (by omega)).mono (by omega)
theorem TW_stop {G : Prg} {t n : Nat} {dp : Nat → Nat} {v : Row} (hs : PS G t n dp) (h : TS v t) : TW G (rStop v t 3) t n dp := by
  obtain ⟨r, hr, hr2, -⟩ := h
  refine TW_zero hs (fun j j1 j2 => ?_) ⟨r, hr, by rw [rStop_out (by omega)]; exact hr2, Or.inr (Or.inr (Or.inr (upd_same _ _ _)))⟩
  unfold rStop rBegin
  rw [upd_ne _ _ (by omega), if_pos (by omega)]
theorem TW_restart {G : Prg} {t n : Nat} {dp : Nat → Nat} {v : Row} (hs : PS G t n dp) (h : TS v t) (h0 : v (rAt t) = 0) : TW G (rRestart v t) t n dp := by
  obtain ⟨r, hr, hr2, hst⟩ := h
  refine TW_zero hs (fun j j1 j2 => rRestart_mid j1 j2) ⟨r, hr, by rw [rRestart_spec (by omega), if_neg (by omega), if_pos rfl]; exact hr2, Or.inl ⟨?_, ?_⟩⟩
  · rw [show rAt t = rAt t + 0 from rfl, rRestart_spec (by omega), if_neg (by omega), if_neg (by omega)]
  · rcases hst with z | z | z | z
    · exact z.2
    · exact z.2
    · rw [h0] at z; exact absurd z.1 (by decide)
    · rw [h0] at z; exact absurd z (by decide)
/-- a READY thread's row may be between two tokens: p ≤ n -/
def TWm (G : Prg) (v : Row) (t n : Nat) (dp : Nat → Nat) (p : Nat) : Prop := TPat G t n dp v p ∧ TV v t ∧ TS v t ∧ v (rAt t) = 0
theorem tok_out {G : Prg} {t n p : Nat} {dp : Nat → Nat} {v : Row} {w : Int32} (hs : PS G t n dp) (h : TWm G v t n dp p) (hpn : p < n) (hV : ∀ c, c < 6 → V (v c)) (hver : ∀ c, c < 6 → ∃ q : Nat, q < 2 ^ 29 ∧ v (6 + c) = nI q) :
    (∃ u, fToken G v t w = (0, u, w) ∧ (∃ p', p < p' ∧ TPat G t n dp u p') ∧ TV u t ∧ ∀ i, i ≤ rAt t ∨ rAt t + 47 ≤ i → u i = v i) ∨ fToken G v t w = (3, upd v (rAt t) 1, w) ∨ fToken G v t w = (2, rRestart v t, w) ∨ fToken G v t w = (4, rStop v t 3, w) := by
  obtain ⟨hp, htv, hts, h0⟩ := h
  have n6 := hs.1
  have hpc : (v (rAt t + 1)).toNatClampNeg = p := by rw [hp.1, cl (by omega)]
  have hd3 := hs.2.2.2.2.1 p (by omega)
  have hkc : (v (rAt t + 16)).toNatClampNeg = dp p := by rw [hp.2.2.1, cl (by omega)]
  have hB : ∀ k, rB t k = rAt t + 17 + 10 * k := fun _ => rfl
  unfold fToken
  rw [hpc]
  by_cases c1 : G 1026 (60 * t + p) = 33 ∨ (G 1026 (60 * t + p) = 63 ∧ ¬ G 1027 (60 * t + p) ≤ v (rAt t + 2))
  · rw [cif_t c1]
    unfold fRetry
    rw [hkc]
    cases hf : rFind (canR G v t) (dp p) with
    | none =>
      by_cases hv : rValid v t
      · simp only [cif_t hv]; exact Or.inr (Or.inl trivial)
      · simp only [cif_f hv]; exact Or.inr (Or.inr (Or.inl trivial))
    | some k =>
      obtain ⟨hk, ⟨k1, k2⟩, -⟩ := rFind_spec hf
      refine Or.inl ⟨_, rfl, TP_retry hs hp hk k1 k2, TV_retry htv (by omega), fun i hi => ?_⟩
      have := hB k
      unfold rRetryAt rBring
      rw [upd_ne _ _ (by omega), upd_ne _ _ (by omega), upd_ne _ _ (by omega), if_neg (by omega), if_neg (by omega)]
  · rw [cif_f c1]
    by_cases c2 : G 1026 (60 * t + p) = 120
    · rw [cif_t c2]
      unfold fAband
      rw [hkc]
      cases hf : rFind (canX G v t) (dp p) with
      | none => exact Or.inr (Or.inr (Or.inr rfl))
      | some k =>
        obtain ⟨hk, k1, -⟩ := rFind_spec hf
        refine Or.inl ⟨_, rfl, TP_aband hs hp hk k1, TV_aband htv (by omega), fun i hi => ?_⟩
        unfold rAbandAt rBring
        rw [upd_ne _ _ (by omega), upd_ne _ _ (by omega), if_neg (by omega), if_neg (by omega)]
    · rw [cif_f c2]
      have hl := hs.2.2.1 p hpn
      have h3 : (G 1026 (60 * t + p) = 40 ∨ G 1026 (60 * t + p) = 123) → dp p < 3 := fun z => (TP_open hs hp hpn z).1
      have htv2 : TV (fPlain G v t p (G 1026 (60 * t + p)) (G 1027 (60 * t + p))) t := TV_plain htv hV hver hp.2.2.1 h3 hd3 (fun z => by
        rcases hl with y | y | y | y | y | y | y | y | y | y | y | y <;> first | exact y.2 | (exfalso; rw [y] at z; rcases z with z | z <;> exact absurd z (by decide)))
      refine Or.inl ⟨_, rfl, ?_, htv2, ?_⟩
      · have nxt : ∀ u : Row, ¬ Ends G t p → ¬ (G 1026 (60 * t + p) = 40 ∨ G 1026 (60 * t + p) = 123 ∨ G 1026 (60 * t + p) = 41 ∨ G 1026 (60 * t + p) = 125) → (∀ j, (j = 1 ∨ 16 ≤ j ∧ j < 47) → u (rAt t + j) = rPos v t (rAt t + j)) → ∃ p', p < p' ∧ TPat G t n dp u p' := by
          intro u e1 e2 e3
          refine ⟨p + 1, by omega, TP_next hs hp hpn e1 ((hs.2.2.2.2.2 p hpn).2.2.2.2 e2) ?_ ?_ fun j j1 j2 => ?_⟩
          · rw [e3 1 (Or.inl rfl)]; unfold rPos; rw [upd_same, hp.1, nI_ofNat 1, nI_add]
          · rw [e3 16 (Or.inr ⟨by omega, by omega⟩)]; exact upd_ne _ _ (by omega)
          · rw [e3 j (Or.inr ⟨by omega, by omega⟩)]; exact upd_ne _ _ (by omega)
        rcases hl with y | y | y | ⟨y, c, hc, ec⟩ | ⟨y, c, hc, ec⟩ | y | y | y | y | y | y | y
        · exact absurd (Or.inl y) c1
        · refine nxt _ (by unfold Ends; rw [y]; decide) (by rw [y]; decide) (fun j hj => ?_)
          rw [y]; rfl
        · exact absurd y c2
        · refine nxt _ (by unfold Ends; rw [y]; decide) (by rw [y]; decide) (fun j hj => ?_)
          rw [y, ec]
          unfold fPlain
          rw [if_pos rfl, cl (by omega)]
          unfold rRead
          by_cases h1 : bitSet (rPos v t (rAt t + 9)) c ∨ ¬ rPos v t (rAt t + 3 + c) = 0
          · rw [if_pos h1, upd_ne _ _ (by omega)]
          · rw [if_neg h1, upd_ne _ _ (by omega), upd_ne _ _ (by omega)]
        · refine nxt _ (by unfold Ends; rw [y]; decide) (by rw [y]; decide) (fun j hj => ?_)
          rw [y, ec]
          unfold fPlain
          rw [if_neg (by decide), if_pos rfl, cl (by omega)]
          unfold rWr
          rw [upd_ne _ _ (by omega), upd_ne _ _ (by omega)]
        · refine nxt _ (by unfold Ends; rw [y]; decide) (by rw [y]; decide) (fun j hj => ?_)
          rw [y]
          exact upd_ne _ _ (by omega)
        · refine nxt _ (by unfold Ends; rw [y]; decide) (by rw [y]; decide) (fun j hj => ?_)
          rw [y]
          exact upd_ne _ _ (by omega)
        · have := (TP_open hs hp hpn (Or.inl y)).2
          refine ⟨p + 1, by omega, ?_⟩
          rw [y]; unfold fPlain; rw [hkc]; exact this
        · have := (TP_open hs hp hpn (Or.inr y)).2
          refine ⟨p + 1, by omega, ?_⟩
          rw [y]; unfold fPlain; rw [hkc]; exact this
        · have := (TP_close hs hp hpn (Or.inl y)).2
          refine ⟨p + 1, by omega, ?_⟩
          rw [y]; exact this
        · have := (TP_close hs hp hpn (Or.inr y)).2
          refine ⟨p + 1, by omega, ?_⟩
          rw [y]; exact this
        · obtain ⟨p', q1, q2⟩ := (TP_bar hs hp hpn y).2
          refine ⟨p', q1, ?_⟩
          rw [y]
          exact q2
      · intro i hi
        have hB' := hB (dp p)
        unfold fPlain
        have ep : rPos v t i = v i := upd_ne _ _ (by omega)
        rw [hkc]
        by_cases z1 : G 1026 (60 * t + p) = 114
        · rw [if_pos z1]
          obtain ⟨c, hc, ec⟩ : ∃ c : Nat, c < 6 ∧ G 1027 (60 * t + p) = nI c := by
            rcases hl with y | y | y | y | y | y | y | y | y | y | y | y <;> first | exact y.2 | (exfalso; rw [y] at z1; exact absurd z1 (by decide))
          rw [ec, cl (by omega)]
          unfold rRead
          by_cases h1 : bitSet (rPos v t (rAt t + 9)) c ∨ ¬ rPos v t (rAt t + 3 + c) = 0
          · rw [if_pos h1, upd_ne _ _ (by omega)]; exact ep
          · rw [if_neg h1, upd_ne _ _ (by omega), upd_ne _ _ (by omega)]; exact ep
        · rw [if_neg z1]
          by_cases z2 : G 1026 (60 * t + p) = 119
          · rw [if_pos z2]
            obtain ⟨c, hc, ec⟩ : ∃ c : Nat, c < 6 ∧ G 1027 (60 * t + p) = nI c := by
              rcases hl with y | y | y | y | y | y | y | y | y | y | y | y <;> first | exact y.2 | (exfalso; rw [y] at z2; exact absurd z2 (by decide)) | (exfalso; rw [y.1] at z2; exact absurd z2 (by decide))
            rw [ec, cl (by omega)]
            unfold rWr
            rw [upd_ne _ _ (by omega), upd_ne _ _ (by omega)]; exact ep
          · rw [if_neg z2]
            by_cases z3 : G 1026 (60 * t + p) = 43
            · rw [if_pos z3, upd_ne _ _ (by omega)]; exact ep
            · rw [if_neg z3]
              by_cases z4 : G 1026 (60 * t + p) = 45
              · rw [if_pos z4, upd_ne _ _ (by omega)]; exact ep
              · rw [if_neg z4]
                by_cases z5 : G 1026 (60 * t + p) = 40 ∨ G 1026 (60 * t + p) = 123
                · have := h3 z5
                  rw [if_pos z5]
                  unfold rOpenAt
                  rw [upd_ne _ _ (by omega), if_neg (by omega), if_neg (by omega), if_neg (by omega), if_neg (by omega)]; exact ep
                · rw [if_neg z5]
                  by_cases z6 : G 1026 (60 * t + p) = 41 ∨ G 1026 (60 * t + p) = 125
                  · rw [if_pos z6]; unfold rPop; rw [upd_ne _ _ (by omega)]; exact ep
                  · rw [if_neg z6]
                    by_cases z7 : G 1026 (60 * t + p) = 124
                    · rw [if_pos z7]; unfold rPop; rw [upd_ne _ _ (by omega), upd_ne _ _ (by omega)]; exact ep
                    · rw [if_neg z7]; exact ep
