def rTok (v : Row) (t k : Nat) : Nat := (v (rB t k)).toNatClampNeg
def rBlocks (v : Row) (t k0 : Nat) : Prop := v (rAt t + 16) = nI k0 ∧ k0 ≤ 3 ∧ ∀ k, k < k0 → ∃ p : Nat, p < 60 ∧ v (rB t k) = nI p
def rRetryAt (v : Row) (t k : Nat) (bar : Int32) : Row := upd (upd (upd (rBring v t (rB t k)) (rB t k + 1) 1) (rAt t + 16) (nI (k + 1))) (rAt t + 1) (bar + 1)
def rAbandAt (v : Row) (t k : Nat) (close : Int32) : Row := upd (upd (rBring v t (rB t k)) (rAt t + 16) (nI k)) (rAt t + 1) (close + 1)
theorem nI_neg1 (n : Nat) : nI n + (-1) = nI n - 1 := by
  rw [Int32.sub_eq_add_neg]
theorem ln1026 : ct_ln (1023 + 3) = 180 := by decide
theorem ln1027 : ct_ln (1023 + 4) = 180 := by decide
theorem ln1028 : ct_ln (1023 + 5) = 180 := by decide
theorem ln1029 : ct_ln (1023 + 6) = 180 := by decide
theorem ln1025 : ct_ln (1023 + 2) = 3 := by decide
theorem neg1_lt (h : ¬ (nI 0 - 1 : Int32) < 0) : False := h (by decide)
set_option maxHeartbeats 1000000 in
theorem r_retry {A t k0 : Nat} {Q : Int32 → ct_M → Prop} {m : ct_M} (hA : ct_ln A = 172) (hA2 : 1029 < A) (ht : t < 3) (hb : rBlocks (m.1 A) t k0)
    (hf : ∀ k, k < k0 → m.1 1026 (60 * t + rTok (m.1 A) t k) = 40 → m.1 A (rB t k + 1) = 0 → (∀ q, k < q → q < k0 → ¬ (m.1 1026 (60 * t + rTok (m.1 A) t q) = 40 ∧ m.1 A (rB t q + 1) = 0)) → Q 0 (pr m A (rRetryAt (m.1 A) t k (m.1 1028 (60 * t + rTok (m.1 A) t k)))))
    (hn : (∀ k, k < k0 → ¬ (m.1 1026 (60 * t + rTok (m.1 A) t k) = 40 ∧ m.1 A (rB t k + 1) = 0)) → (rValid (m.1 A) t → Q 3 (pr m A (upd (m.1 A) (rAt t) 1))) ∧ (¬ rValid (m.1 A) t → Q 2 (pr m A (rRestart (m.1 A) t)))) : wp_X12_retry 1023 A (nI t) Q m := by
  have hr : rAt t = 25 + 49 * t := rfl
  obtain ⟨ho, hk3, hp⟩ := hb
  have loop : ∀ (j : Nat) (x : Int32), x = nI j - 1 → j ≤ k0 → (∀ q, j ≤ q → q < k0 → ¬ (m.1 1026 (60 * t + rTok (m.1 A) t q) = 40 ∧ m.1 A (rB t q + 1) = 0)) → wb_X12_retry_12 Q (j + 1) 1023 A (nI t) x m := by
    intro j
    induction j with
    | zero =>
      intro x hx hj hq
      subst hx
      have hn := hn fun k hk => hq k (Nat.zero_le _) hk
      unfold wb_X12_retry_12
      refine ⟨fun _ => r_valid hA ht (fun hv => ⟨fun _ => ?_, fun e => absurd e (by decide)⟩) (fun hv => ⟨fun e => absurd rfl e, fun _ => r_restart hA ht (hn.2 hv)⟩), fun e => (neg1_lt e).elim⟩
      unfold wp_X12_at
      simp (disch := omega) only [nI_ofNat, pk_mul, nI_add, vp_nI, cl, fa_eq, hA, pr_st]
      exact ⟨by omega, hn.1 hv⟩
    | succ j ih =>
      intro x hx hj hq
      rw [nI_pred] at hx
      subst hx
      obtain ⟨p, hp1, hp2⟩ := hp j (by omega)
      have hB : rB t j = 25 + 49 * t + 17 + 10 * j := rfl
      have hp3 : m.1 A (25 + 49 * t + 17 + 10 * j) = nI p := hp2
      have htok : rTok (m.1 A) t j = p := by unfold rTok; rw [hp2, cl (by omega)]
      have nx : ¬ (m.1 1026 (60 * t + p) = 40 ∧ m.1 A (rB t j + 1) = 0) → wb_X12_retry_110 (wb_X12_retry_12 Q (j + 1)) Q 1023 A (nI t) (nI j) m := by
        intro hno
        unfold wb_X12_retry_110
        intro x hx
        rw [nI_neg1] at hx
        refine ih x hx (by omega) (fun q h1 h2 => ?_)
        by_cases hqj : q = j
        · subst hqj; rw [htok]; exact hno
        · exact hq q (by omega) h2
      unfold wb_X12_retry_12 wp_X12_at
      simp (disch := omega) only [nI_ofNat, pk_mul, nI_add, vp_nI, cl, fa_eq, hA, hp3, ln1026, cmp_lt]
      refine ⟨fun e => absurd e (by omega), fun _ => ⟨by omega, by omega, fun e => nx (fun z => e z.1), fun e => ⟨by omega, fun e2 => nx (fun z => e2 z.2), fun e2 => ?_⟩⟩⟩
      refine r_bring hA ht (by omega) (by omega) ?_
      have e1 : upd (upd (rBring (m.1 A) t (25 + 49 * t + 17 + 10 * j)) (25 + 49 * t + 17 + 10 * j + 1) (nI 1)) (25 + 49 * t + 16) (nI (j + 1)) (25 + 49 * t + 17 + 10 * j) = nI p := by
        rw [upd_ne _ _ (by omega), upd_ne _ _ (by omega), ← hp3]
        unfold rBring
        rw [if_neg (by omega), if_neg (by omega)]
      simp (disch := omega) only [vp_nI, cl, hA, pr_stpr, pr_at, e1, nI_ofNat, pk_mul, nI_add, ln1028, pr_ne m (B := 1023 + 5)]
      refine ⟨by omega, by omega, by omega, by omega, by omega, ?_⟩
      have := hf j (by omega) (by rw [htok]; exact e) e2 (fun q h1 h2 => hq q (by omega) h2)
      rw [htok] at this
      exact this
  unfold wp_X12_retry wp_X12_at
  have ho' : m.1 A (25 + 49 * t + 16) = nI k0 := ho
  simp (disch := omega) only [nI_ofNat, pk_mul, nI_add, vp_nI, cl, fa_eq, hA, ho']
  exact ⟨by omega, k0 + 1, loop k0 _ rfl (Nat.le_refl _) (fun q h1 h2 => absurd h2 (by omega))⟩
set_option maxHeartbeats 1000000 in
theorem r_abandon {A t k0 : Nat} {Q : Int32 → ct_M → Prop} {m : ct_M} (hA : ct_ln A = 172) (hA2 : 1029 < A) (ht : t < 3) (hb : rBlocks (m.1 A) t k0)
    (hf : ∀ k, k < k0 → m.1 1026 (60 * t + rTok (m.1 A) t k) = 123 → (∀ q, k < q → q < k0 → ¬ m.1 1026 (60 * t + rTok (m.1 A) t q) = 123) → Q 0 (pr m A (rAbandAt (m.1 A) t k (m.1 1029 (60 * t + rTok (m.1 A) t k)))))
    (hn : (∀ k, k < k0 → ¬ m.1 1026 (60 * t + rTok (m.1 A) t k) = 123) → Q 4 (pr m A (rStop (m.1 A) t 3))) : wp_X12_abandon 1023 A (nI t) Q m := by
  have hr : rAt t = 25 + 49 * t := rfl
  obtain ⟨ho, hk3, hp⟩ := hb
  have loop : ∀ (j : Nat) (x : Int32), x = nI j - 1 → j ≤ k0 → (∀ q, j ≤ q → q < k0 → ¬ m.1 1026 (60 * t + rTok (m.1 A) t q) = 123) → wb_X12_abandon_12 Q (j + 1) 1023 A (nI t) x m := by
    intro j
    induction j with
    | zero =>
      intro x hx hj hq
      subst hx
      unfold wb_X12_abandon_12
      exact ⟨fun _ => r_stop hA ht (hn fun k hk => hq k (Nat.zero_le _) hk), fun e => (neg1_lt e).elim⟩
    | succ j ih =>
      intro x hx hj hq
      rw [nI_pred] at hx
      subst hx
      obtain ⟨p, hp1, hp2⟩ := hp j (by omega)
      have hB : rB t j = 25 + 49 * t + 17 + 10 * j := rfl
      have hp3 : m.1 A (25 + 49 * t + 17 + 10 * j) = nI p := hp2
      have htok : rTok (m.1 A) t j = p := by unfold rTok; rw [hp2, cl (by omega)]
      unfold wb_X12_abandon_12 wp_X12_at
      simp (disch := omega) only [nI_ofNat, pk_mul, nI_add, vp_nI, cl, hA, hp3, ln1026, cmp_lt, forall_eq]
      refine ⟨fun e => absurd e (by omega), fun _ => ⟨by omega, by omega, fun e => ?_, fun e => ?_⟩⟩
      · refine ih _ (nI_neg1 j) (by omega) (fun q h1 h2 => ?_)
        by_cases hqj : q = j
        · subst hqj; rw [htok]; exact e
        · exact hq q (by omega) h2
      refine r_bring hA ht (by omega) (by omega) ?_
      have e1 : upd (rBring (m.1 A) t (25 + 49 * t + 17 + 10 * j)) (25 + 49 * t + 16) (nI j) (25 + 49 * t + 17 + 10 * j) = nI p := by
        rw [upd_ne _ _ (by omega), ← hp3]
        unfold rBring
        rw [if_neg (by omega), if_neg (by omega)]
      simp (disch := omega) only [vp_nI, cl, hA, pr_stpr, pr_at, e1, nI_ofNat, pk_mul, nI_add, ln1029, pr_ne m (B := 1023 + 6)]
      refine ⟨by omega, by omega, by omega, by omega, ?_⟩
      have := hf j (by omega) (by rw [htok]; exact e) (fun q h1 h2 => hq q (by omega) h2)
      rw [htok] at this
      exact this
  unfold wp_X12_abandon wp_X12_at
  have ho' : m.1 A (25 + 49 * t + 16) = nI k0 := ho
  simp (disch := omega) only [nI_ofNat, pk_mul, nI_add, vp_nI, cl, fa_eq, hA, ho']
  exact ⟨by omega, k0 + 1, loop k0 _ rfl (Nat.le_refl _) (fun q h1 h2 => absurd h2 (by omega))⟩
noncomputable def rRead (v : Row) (t c : Nat) : Row := @ite _ (bitSet (v (rAt t + 9)) c ∨ ¬ v (rAt t + 3 + c) = 0) (Classical.propDecidable _) (upd v (rAt t + 2) (rSees v t c)) (upd (upd v (rAt t + 2) (rSees v t c)) (rAt t + 3 + c) (v (6 + c) + 1))
theorem r_at {t : Nat} {Q : Int32 → ct_M → Prop} {m : ct_M} (h : Q (nI (rAt t)) m) : wp_X12_at (nI t) Q m := by
  unfold wp_X12_at
  have e : (25 : Int32) + 49 * nI t = nI (rAt t) := by
    rw [nI_ofNat 25, nI_ofNat 49, pk_mul, nI_add]; rfl
  rw [e]
  exact h
theorem r_read {A t c : Nat} {Q : ct_M → Prop} {m : ct_M} (hA : ct_ln A = 172) (ht : t < 3) (hc : c < 6) (h : Q (pr m A (rRead (m.1 A) t c))) : wp_X12_readCell A (nI t) (nI c) Q m := by
  have hr : rAt t = 25 + 49 * t := rfl
  unfold wp_X12_readCell
  refine r_at (r_sees hA ht hc ?_)
  simp (disch := omega) only [nI_ofNat, nI_add, vp_nI, cl, hA, forall_eq]
  refine ⟨by omega, r_at ?_⟩
  simp (disch := omega) only [nI_ofNat, nI_add, vp_nI, cl, hA, pr_st m, pr_at]
  rw [upd_ne _ _ (by omega : rAt t + 9 ≠ rAt t + 2)]
  refine ⟨by omega, r_has (fun hb => ?_) (fun hb => ?_)⟩
  · have e : rRead (m.1 A) t c = upd (m.1 A) (rAt t + 2) (rSees (m.1 A) t c) := if_pos (Or.inl hb)
    rw [e] at h
    exact ⟨fun _ => h, fun e => absurd e (by decide)⟩
  · refine ⟨fun e => absurd rfl e, fun _ => r_at ?_⟩
    simp (disch := omega) only [nI_ofNat, nI_add, vp_nI, cl, hA, pr_at]
    rw [upd_ne _ _ (by omega : rAt t + 3 + c ≠ rAt t + 2)]
    refine ⟨by omega, fun h3 => ?_, fun h3 => r_at ?_⟩
    · have e : rRead (m.1 A) t c = upd (m.1 A) (rAt t + 2) (rSees (m.1 A) t c) := if_pos (Or.inr h3)
      rw [e] at h
      exact h
    · have e : rRead (m.1 A) t c = upd (upd (m.1 A) (rAt t + 2) (rSees (m.1 A) t c)) (rAt t + 3 + c) (m.1 A (6 + c) + 1) := if_neg (fun z => z.elim hb (fun z => z h3))
      rw [e] at h
      simp (disch := omega) only [nI_ofNat, nI_add, vp_nI, cl, hA, forall_eq, pr_at, pr_stpr]
      rw [upd_ne _ _ (by omega : 6 + c ≠ rAt t + 2)]
      exact ⟨by omega, by omega, h⟩
def rClamp (x : Int32) : Int32 := if x ≤ 99 then (if -99 ≤ x then x else -99) else 99
theorem r_clamp {x : Int32} {Q : Int32 → ct_M → Prop} {m : ct_M} (h : Q (rClamp x) m) : wp_X12_clamp x Q m := by
  unfold rClamp at h
  refine ⟨fun e => ⟨fun e2 => ?_, fun e2 => ?_⟩, fun e => ?_⟩
  · rw [if_pos e, if_pos e2] at h; exact h
  · rw [if_pos e, if_neg e2] at h; exact h
  · rw [if_neg e] at h; exact h
def rPos (v : Row) (t : Nat) : Row := upd v (rAt t + 1) (v (rAt t + 1) + 1)
def rWr (v : Row) (t c : Nat) : Row := upd (upd v (rAt t + 9) (v (rAt t + 9) ||| ((1 : Int32) <<< (nI c &&& 31)))) (rAt t + 10 + c) (v (rAt t + 2))
def rPop (v : Row) (t : Nat) : Row := upd v (rAt t + 16) (v (rAt t + 16) - 1)
set_option maxHeartbeats 1000000 in
/-- one token of the reference: which way it goes by its letter -/
theorem r_token {A t p k0 : Nat} {Q : Int32 → ct_M → Prop} {m : ct_M} {ℓ d : Int32} (hA : ct_ln A = 172) (hA2 : 1029 < A) (ht : t < 3) (hp : p < 60) (hv : m.1 A (rAt t + 1) = nI p) (hℓ : m.1 1026 (60 * t + p) = ℓ) (hd : m.1 1027 (60 * t + p) = d)
    (ho : m.1 A (rAt t + 16) = nI k0)
    (hR : ℓ = 33 ∨ (ℓ = 63 ∧ ¬ d ≤ m.1 A (rAt t + 2)) → wp_X12_retry 1023 A (nI t) Q m)
    (hX : ℓ = 120 → wp_X12_abandon 1023 A (nI t) Q m)
    (hQ : ℓ = 63 → d ≤ m.1 A (rAt t + 2) → Q 0 (pr m A (rPos (m.1 A) t)))
    (hr : ℓ = 114 → ∃ c : Nat, c < 6 ∧ d = nI c ∧ Q 0 (pr m A (rRead (rPos (m.1 A) t) t c)))
    (hw : ℓ = 119 → ∃ c : Nat, c < 6 ∧ d = nI c ∧ Q 0 (pr m A (rWr (rPos (m.1 A) t) t c)))
    (hp1 : ℓ = 43 → Q 0 (pr m A (upd (rPos (m.1 A) t) (rAt t + 2) (rClamp (m.1 A (rAt t + 2) + d)))))
    (hm1 : ℓ = 45 → Q 0 (pr m A (upd (rPos (m.1 A) t) (rAt t + 2) (rClamp (m.1 A (rAt t + 2) - d)))))
    (hop : ℓ = 40 ∨ ℓ = 123 → k0 < 3 ∧ Q 0 (pr m A (rOpenAt (rPos (m.1 A) t) t k0 (nI p))))
    (hcl : ℓ = 41 ∨ ℓ = 125 → Q 0 (pr m A (rPop (rPos (m.1 A) t) t)))
    (hba : ℓ = 124 → Q 0 (pr m A (upd (rPop (rPos (m.1 A) t) t) (rAt t + 1) (m.1 1029 (60 * t + p) + 1))))
    (hot : ℓ = 33 ∨ ℓ = 63 ∨ ℓ = 120 ∨ ℓ = 114 ∨ ℓ = 119 ∨ ℓ = 43 ∨ ℓ = 45 ∨ ℓ = 40 ∨ ℓ = 123 ∨ ℓ = 41 ∨ ℓ = 125 ∨ ℓ = 124) : wp_X12_token 1023 A (nI t) Q m := by
  have hr' : rAt t = 25 + 49 * t := rfl
  have hv' : m.1 A (25 + 49 * t + 1) = nI p := hv
  have hℓ' : m.1 (1023 + 3) (60 * t + p) = ℓ := hℓ
  have hd' : m.1 (1023 + 4) (60 * t + p) = d := hd
  have retr : (ℓ = 33 ∨ (ℓ = 63 ∧ ¬ d ≤ m.1 A (rAt t + 2))) → ∀ x : Int32, ¬ x = 0 → wb_X12_token_62 Q 1023 A (nI t) (nI (60 * t + p)) d x m := by
    intro h x hx
    unfold wb_X12_token_62
    exact ⟨fun e => absurd e hx, fun _ => hR h⟩
  have e2 : rPos (m.1 A) t (25 + 49 * t + 2) = m.1 A (rAt t + 2) := upd_ne _ _ (by omega)
  have e1 : upd (m.1 A) (25 + 49 * t + 1) (nI p + nI 1) = rPos (m.1 A) t := by unfold rPos; rw [hv]; rfl
  have e16 : rPos (m.1 A) t (25 + 49 * t + 16) = m.1 A (rAt t + 16) := upd_ne _ _ (by omega)
  have e9 : rPos (m.1 A) t (25 + 49 * t + 9) = rPos (m.1 A) t (rAt t + 9) := rfl
  have go : ¬ (ℓ = 33 ∨ (ℓ = 63 ∧ ¬ d ≤ m.1 A (rAt t + 2))) → wb_X12_token_62 Q 1023 A (nI t) (nI (60 * t + p)) d (0 : Int32) m := by
    intro hno
    unfold wb_X12_token_62 wp_X12_at
    simp (disch := omega) only [nI_ofNat, pk_mul, nI_add, vp_nI, cl, hA, hℓ', ln1026, ln1029, forall_eq, hv', pr_st m, pr_stpr, pr_at, pr_ne m (B := 1023 + 3), pr_ne m (B := 1023 + 6)]
    rw [show nI (p + 1) = nI p + nI 1 from (nI_add p 1).symm, e1]
    refine ⟨fun _ => ⟨by omega, fun h120 => ⟨by omega, by omega, by omega, ?_, fun e40 => ⟨?_, fun e41 => ⟨?_, fun e43 => ⟨?_, fun e45 => ⟨?_, fun e114 => ⟨?_, fun e119 => ⟨?_, fun e123 => ⟨?_, fun e124 => ⟨?_, fun e125 => ?_⟩⟩⟩⟩⟩⟩⟩⟩⟩, fun e => hX e⟩, fun e => absurd trivial e⟩
    · intro e40
      obtain ⟨hk, hq⟩ := hop (Or.inl e40)
      rw [pk_sub (by omega), show 60 * t + p - 60 * t = p by omega]
      refine r_open hA ht hk (by rw [pr_at]; exact e16.trans ho) ?_
      rw [pr_at, pr_pr]
      exact hq
    · intro e41
      exact ⟨by omega, by omega, hcl (Or.inl e41)⟩
    · intro e43
      refine ⟨by omega, ?_⟩
      rw [e2]
      refine r_clamp ?_
      rw [pr_stpr]
      exact ⟨by omega, hp1 e43⟩
    · intro e45
      refine ⟨by omega, ?_⟩
      rw [e2]
      refine r_clamp ?_
      rw [pr_stpr]
      exact ⟨by omega, hm1 e45⟩
    · intro e114
      obtain ⟨c, hc, hdc, hq⟩ := hr e114
      rw [hdc]
      refine r_read hA ht hc ?_
      rw [pr_at, pr_pr]
      exact hq
    · intro e119
      obtain ⟨c, hc, hdc, hq⟩ := hw e119
      rw [hdc]
      simp (disch := omega) only [nI_add, vp_nI, cl, pr_stpr]
      refine ⟨by omega, by omega, by omega, by omega, ?_⟩
      have e2' : upd (rPos (m.1 A) t) (25 + 49 * t + 9) (rPos (m.1 A) t (25 + 49 * t + 9) ||| (nI 1) <<< (nI c &&& nI 31)) (25 + 49 * t + 2) = rPos (m.1 A) t (rAt t + 2) := upd_ne _ _ (by omega)
      rw [e2']
      exact hq
    · intro e123
      obtain ⟨hk, hq⟩ := hop (Or.inr e123)
      rw [pk_sub (by omega), show 60 * t + p - 60 * t = p by omega]
      refine r_open hA ht hk (by rw [pr_at]; exact e16.trans ho) ?_
      rw [pr_at, pr_pr]
      exact hq
    · intro e124
      exact ⟨by omega, by omega, by omega, by omega, hba e124⟩
    · intro e125
      exact ⟨by omega, by omega, hcl (Or.inr e125)⟩
    · have h63 : ℓ = 63 := by
        rcases hot with h | h | h | h | h | h | h | h | h | h | h | h
        · exact absurd (Or.inl h) hno
        · exact h
        · exact absurd h h120
        · exact absurd h e114
        · exact absurd h e119
        · exact absurd h e43
        · exact absurd h e45
        · exact absurd h e40
        · exact absurd h e123
        · exact absurd h e41
        · exact absurd h e125
        · exact absurd h e124
      exact hQ h63 (Classical.byContradiction fun z => hno (Or.inr ⟨h63, z⟩))
  unfold wp_X12_token
  refine r_at ?_
  simp (disch := omega) only [nI_ofNat, pk_mul, nI_add, vp_nI, cl, hA, hv, ln1026, ln1027, forall_eq, hℓ', hd']
  refine ⟨by omega, by omega, by omega, fun e => ?_, fun e => ⟨by omega, fun e63 => ?_, fun e63 => r_at ?_⟩⟩
  · unfold wb_X12_token_57
    exact retr (Or.inl e) _ (by decide)
  · unfold wb_X12_token_61
    exact go (fun z => z.elim e (fun z => e63 z.1))
  · simp (disch := omega) only [nI_ofNat, nI_add, vp_nI, cl, hA]
    refine ⟨by omega, fun hle => ?_, fun hle => ?_⟩
    · unfold wb_X12_token_61
      exact go (fun z => z.elim e (fun z => z.2 hle))
    · unfold wb_X12_token_57
      exact retr (Or.inr ⟨e63, hle⟩) _ (by decide)
theorem r_after {A t n : Nat} {Q : Int32 → ct_M → Prop} {r : Int32} {m' : ct_M} (hA : ct_ln A = 172) (ht : t < 3) (hn : n < 2 ^ 30) (g1 : ¬ r = 0 → Q r m') (g2 : r = 0 → ∃ q : Nat, q < 2 ^ 30 ∧ m'.1 A (rAt t + 1) = nI q ∧ m'.1 1025 t = nI n ∧ (q ≠ n → Q 0 m') ∧ (q = n → wp_X12_commit 1023 A (nI t) Q m')) : wb_X12_stepOn_19 Q 1023 A (nI t) r m' := by
  have hr : rAt t = 25 + 49 * t := rfl
  unfold wb_X12_stepOn_19
  refine ⟨g1, fun e => ?_⟩
  obtain ⟨q, hq, q1, q2, q3, q4⟩ := g2 e
  have q2' : m'.1 (1023 + 2) t = nI n := q2
  refine r_at ?_
  simp (disch := omega) only [nI_ofNat, nI_add, vp_nI, cl, hA, q1, q2', ln1025, cmp_eq]
  refine ⟨by omega, by omega, fun e2 => by rw [e]; exact q3 e2, fun e2 => q4 e2⟩
/-- a step of the reference -/
theorem r_stepOn {A t n : Nat} {Q : Int32 → ct_M → Prop} {m : ct_M} (hA : ct_ln A = 172) (ht : t < 3) (hn : n < 2 ^ 30) (htk : m.1 1025 t = nI n)
    (h0 : n = 0 → (m.1 A (rAt t + 1) = nI 0) ∧ wp_X12_commit 1023 A (nI t) Q m)
    (h1 : 0 < n → wp_X12_token 1023 A (nI t) (fun r m' => wb_X12_stepOn_19 Q 1023 A (nI t) r m') m) : wp_X12_stepOn 1023 A (nI t) Q m := by
  have hr : rAt t = 25 + 49 * t := rfl
  have htk' : m.1 (1023 + 2) t = nI n := htk
  unfold wp_X12_stepOn
  simp (disch := omega) only [nI_ofNat 0, vp_nI, cl, htk', ln1025, cmp_eq]
  refine ⟨by omega, fun e => h1 (by omega), fun e => ?_⟩
  obtain ⟨g1, g2⟩ := h0 e
  exact r_after hA ht hn (fun z => absurd rfl z) (fun _ => ⟨0, by decide, g1, htk, fun z => absurd e.symm z, fun _ => g2⟩)
