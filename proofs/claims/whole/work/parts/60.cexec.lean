/-! the class: opening a block, reading, writing -/
/-- the class's program P is the reference's thread t, of n tokens -/
def PG (G : Prg) (m : ct_M) (P t n : Nat) : Prop := m.1 P 3 = nI n ∧ ∀ k, k < n → m.1 (P + 1) k = G 1026 (60 * t + k) ∧ m.1 (P + 2) k = G 1027 (60 * t + k) ∧ (G 1026 (60 * t + k) = 40 → m.1 (P + 3) k = G 1028 (60 * t + k)) ∧ ((G 1026 (60 * t + k) = 123 ∨ G 1026 (60 * t + k) = 124) → m.1 (P + 3) k = G 1029 (60 * t + k))
theorem p_len {t : Nat} (ht : t < 3) : ct_ln (11 + 5 * t + 1) = 60 ∧ ct_ln (11 + 5 * t + 2) = 60 ∧ ct_ln (11 + 5 * t + 3) = 60 :=
  (by decide +kernel : ∀ t, t < 3 → ct_ln (11 + 5 * t + 1) = 60 ∧ ct_ln (11 + 5 * t + 2) = 60 ∧ ct_ln (11 + 5 * t + 3) = 60) t ht
theorem c_has {P p n : Nat} {Q : Int32 → ct_M → Prop} {m : ct_M} (hn : m.1 P 3 = nI n) (hn6 : n < 60) (hp : p < 2 ^ 30) (h1 : p < n → Q 1 m) (h0 : ¬ p < n → Q 0 m) : wp_X5_has P (nI p) Q m := by
  unfold wp_X5_has
  rw [hn]
  simp (disch := omega) only [nI_ofNat, cmp_le]
  exact ⟨fun e => absurd e (nI_pos (by omega)), fun _ => ⟨fun e => h0 (by omega), fun e => ⟨fun e2 => absurd e2 (by omega), fun _ => h1 (by omega)⟩⟩⟩
theorem c_behind {P p n : Nat} {Q : Int32 → ct_M → Prop} {m : ct_M} (hn : m.1 P 3 = nI n) (hn6 : n < 60) (hl : ct_ln (P + 3) = 60) (hp : p < n) (h : Q (m.1 (P + 3) p + 1) m) : wp_X5_behindPartner P (nI p) Q m := by
  unfold wp_X5_behindPartner
  refine c_has hn hn6 (by omega) (fun _ => ⟨fun e => absurd e (by decide), fun _ => ?_⟩) (fun e => absurd hp e)
  simp (disch := omega) only [vp_nI, cl, hl]
  exact ⟨by omega, h⟩
theorem okC40 : ct_okC 40 := ⟨rfl, rfl⟩
theorem okC123 : ct_okC 123 := ⟨rfl, rfl⟩
theorem c_openBlock {G : Prg} {w t n p k : Nat} {v : Row} {ℓ : Int32} {Q : ct_M → Prop} {m : ct_M} (hw : WL w) (hpg : ct_pg w = 11 + 5 * t) (ht : t < 3) (hP : PG G m (11 + 5 * t) t n) (hn6 : n < 60) (hPw : 11 + 5 * t + 3 < w) (h : Rk G m w v t) (hp : v (rAt t + 1) = nI p) (hpn : p < n) (hk : v (rAt t + 16) = nI k) (hk3 : k < 3) (hℓ : G 1026 (60 * t + p) = ℓ) (hℓ2 : ℓ = 40 ∨ ℓ = 123)
    (hq : ∀ m', Fr m m' w (w + 15) → m'.1 w 5 = nI p → Rk G m' w (rOpenAt v t k (nI p)) t → Q m') : wp_X9_openBlock w ℓ Q m := by
  have hB : rB t k = rAt t + 17 + 10 * k := rfl
  obtain ⟨⟨a1, a2, a3, a4, a5, a6⟩, ⟨⟨n0, n1, n2⟩, r2⟩, ⟨w1, w2⟩, b⟩ := h
  have hcnt : m.1 w 9 = nI k := a6.trans hk
  obtain ⟨l1, l2, l3, l4⟩ := hw
  have l4' := l4 k hk3
  have hnx : m.1 w 5 = nI p := a5.trans hp
  unfold wp_X9_openBlock
  have oke : ct_okC ℓ := by rcases hℓ2 with e | e <;> rw [e] <;> first | exact okC40 | exact okC123
  simp (disch := omega) only [hcnt, nI_ofNat, cmp_le, vp_nI, cl, l3, fa_eq, show w + 5 + 1 + 3 * k = w + 6 + 3 * k from rfl, hpg]
  refine ⟨fun e => absurd e (nI_pos (by omega)), fun _ => ⟨fun e => absurd e (by omega), fun _ => ⟨by omega, oke, ?_⟩⟩⟩
  have e5 : (ct_st (ct_st m (w + 6 + 3 * k) 0 ℓ) (w + 6 + 3 * k) 1 (nI 0)).1 w 5 = nI p := by rw [ct_st_ne (by omega), ct_st_ne (by omega)]; exact hnx
  rw [e5]
  refine c_behind (n := n) (by rw [ct_st_ne (by omega), ct_st_ne (by omega)]; exact hP.1) hn6 (p_len ht).2.2 hpn ?_
  refine c_copy (by rw [show w + 6 + 3 * k + 1 + 1 = w + 6 + 3 * k + 2 from rfl]; exact l4') l2 (by omega) (by omega) (by omega) ?_
  generalize hbe : (ct_st (ct_st m (w + 6 + 3 * k) 0 ℓ) (w + 6 + 3 * k) 1 (nI 0)).1 (11 + 5 * t + 3) p + 1 = be
  have hbe2 : be = (if G 1026 (60 * t + p) = 40 then G 1028 (60 * t + p) + 1 else G 1029 (60 * t + p) + 1) := by
    rw [← hbe, ct_st_ne (by omega), ct_st_ne (by omega)]
    rcases hℓ2 with e | e
    · rw [if_pos (hℓ.trans e), (hP.2 p hpn).2.2.1 (hℓ.trans e)]
    · rw [if_neg (by rw [hℓ, e]; decide), (hP.2 p hpn).2.2.2 (Or.inl (hℓ.trans e))]
  generalize hM : ct_st (ct_st (ct_st (ct_st m (w + 6 + 3 * k) 0 ℓ) (w + 6 + 3 * k) 1 (nI 0)) (w + 6 + 3 * k) 2 be) (w + 6 + 3 * k) 3 ((ct_st (ct_st (ct_st m (w + 6 + 3 * k) 0 ℓ) (w + 6 + 3 * k) 1 (nI 0)) (w + 6 + 3 * k) 2 be).1 w 4) = M
  have fM : Fr m M w (w + 15) := by
    rw [← hM]
    exact (((Fr.stB (by omega) (by omega) ⟨fun _ => oke, fun e => absurd e (by decide)⟩).tr (Fr.stB (by omega) (by omega) ⟨fun e => absurd e (by decide), fun _ => okZ0⟩)).tr (Fr.stB (by omega) (by omega) ⟨fun e => absurd e (by decide), fun e => absurd e (by decide)⟩)).tr (Fr.stB (by omega) (by omega) ⟨fun e => absurd e (by decide), fun e => absurd e (by decide)⟩)
  have oM : ∀ q, q ≠ w + 6 + 3 * k → M.1 q = m.1 q := fun q hq1 => by
    rw [← hM, ct_st_ne hq1, ct_st_ne hq1, ct_st_ne hq1, ct_st_ne hq1]
  have qM : M.1 (w + 6 + 3 * k) = upd (upd (upd (upd (m.1 (w + 6 + 3 * k)) 0 ℓ) 1 (nI 0)) 2 be) 3 (m.1 w 4) := by
    rw [← hM, ct_st_eq, ct_st_eq, ct_st_eq, ct_st_eq, ct_st_ne (by omega), ct_st_ne (by omega), ct_st_ne (by omega)]
  generalize hM' : ct_st (cCopy M (w + 6 + 3 * k + 1) (w + 3)) w 9 ((cCopy M (w + 6 + 3 * k + 1) (w + 3)).1 w 9 + nI 1) = M'
  have fM' : Fr M M' w (w + 15) := by
    rw [← hM']
    exact (Fr.copy (by omega) (by omega)).tr (Fr.st (by omega) (by omega))
  have oM' : ∀ q, q ≠ w → q ≠ w + 6 + 3 * k + 1 → q ≠ w + 6 + 3 * k + 2 → M'.1 q = M.1 q := fun q h1 h2 h3 => by
    rw [← hM', ct_st_ne h1]
    unfold cCopy
    rw [pr_ne _ _ h3, pr_ne _ _ h2]
  have wM' : M'.1 w = upd (m.1 w) 9 (m.1 w 9 + nI 1) := by
    rw [← hM', ct_st_eq]
    unfold cCopy
    rw [pr_ne _ _ (by omega), pr_ne _ _ (by omega), oM w (by omega)]
  have q1M' : M'.1 (w + 6 + 3 * k + 1) 0 = v (rAt t + 9) := by
    rw [← hM', ct_st_ne (by omega)]
    unfold cCopy
    rw [pr_ne _ _ (by omega), pr_at, upd_same, oM _ (by omega)]; exact w1
  have q2M' : ∀ c, c < 6 → M'.1 (w + 6 + 3 * k + 2) c = m.1 (w + 4) c := fun c hc => by
    rw [← hM', ct_st_ne (by omega)]
    unfold cCopy
    rw [show w + 6 + 3 * k + 2 = w + 6 + 3 * k + 1 + 1 from rfl, pr_at]
    simp only [hc, if_true]
    rw [oM _ (by omega)]
  have out : ∀ j, j < 17 ∨ 47 ≤ j → j ≠ 16 → rOpenAt v t k (nI p) (rAt t + j) = v (rAt t + j) := fun j h1 h2 => by
    unfold rOpenAt
    rw [upd_ne _ _ (by omega), if_neg (by omega), if_neg (by omega), if_neg (by omega), if_neg (by omega)]
  have o16 : rOpenAt v t k (nI p) (rAt t + 16) = nI (k + 1) := by
    unfold rOpenAt
    rw [upd_same, hk, nI_ofNat 1, nI_add]
  have ob : ∀ k' j, k' < k → j < 10 → rOpenAt v t k (nI p) (rB t k' + j) = v (rB t k' + j) := fun k' j h1 h2 => by
    have hB' : rB t k' = rAt t + 17 + 10 * k' := rfl
    unfold rOpenAt
    rw [upd_ne _ _ (by omega), if_neg (by omega), if_neg (by omega), if_neg (by omega), if_neg (by omega)]
  refine hq M' (fM.tr fM') (by rw [wM', upd_ne _ _ (by decide)]; exact hnx) ⟨⟨?_, ?_, ?_, ?_, ?_, ?_⟩, ⟨⟨n0, n1, ?_⟩, fun c hc => ?_⟩, ⟨?_, fun c hc hb => ?_⟩, fun k' hk' => ?_⟩
  · rw [wM', upd_ne _ _ (by decide), show rAt t = rAt t + 0 from rfl, out 0 (by omega) (by omega)]; exact a1
  · rw [wM', upd_ne _ _ (by decide), out 47 (by omega) (by omega)]; exact a2
  · rw [wM', upd_ne _ _ (by decide), out 48 (by omega) (by omega)]; exact a3
  · rw [wM', upd_ne _ _ (by decide), out 2 (by omega) (by omega)]; exact a4
  · rw [wM', upd_ne _ _ (by decide), out 1 (by omega) (by omega)]; exact a5
  · rw [wM', upd_same, o16, hcnt, nI_add]
  · rw [oM' _ (by omega) (by omega) (by omega), oM _ (by omega)]; exact n2
  · rw [oM' (w + 1) (by omega) (by omega) (by omega), oM' (w + 2) (by omega) (by omega) (by omega), oM (w + 1) (by omega), oM (w + 2) (by omega), show rAt t + 3 + c = rAt t + (3 + c) by omega, out (3 + c) (by omega) (by omega), show rAt t + (3 + c) = rAt t + 3 + c by omega]; exact r2 c hc
  · rw [oM' _ (by omega) (by omega) (by omega), oM _ (by omega), out 9 (by omega) (by omega)]; exact w1
  · rw [out 9 (by omega) (by omega)] at hb
    rw [oM' _ (by omega) (by omega) (by omega), oM _ (by omega), show rAt t + 10 + c = rAt t + (10 + c) by omega, out (10 + c) (by omega) (by omega), show rAt t + (10 + c) = rAt t + 10 + c by omega]; exact w2 c hc hb
  · rw [o16, cl (by omega)] at hk'
    by_cases ek : k' = k
    · subst ek
      have et : rTok (rOpenAt v t k' (nI p)) t k' = p := by
        unfold rTok rOpenAt
        rw [upd_ne _ _ (by omega), if_neg (by omega), if_neg (by omega), if_neg (by omega), if_pos rfl, cl (by omega)]
      unfold RkB1
      rw [et, q1M', oM' (w + 6 + 3 * k') (by omega) (by omega) (by omega), qM]
      refine ⟨?_, ?_, ?_, ?_, ?_, fun c hc hb => ?_⟩
      · rw [upd_ne _ _ (by decide), upd_ne _ _ (by decide), upd_ne _ _ (by decide), upd_same]; exact hℓ.symm
      · rw [upd_ne _ _ (by decide), upd_ne _ _ (by decide), upd_same]
        unfold rOpenAt
        rw [upd_ne _ _ (by omega), if_neg (by omega), if_neg (by omega), if_pos rfl]; rfl
      · rw [upd_ne _ _ (by decide), upd_same]; exact hbe2
      · rw [upd_same, a4]
        unfold rOpenAt
        rw [upd_ne _ _ (by omega), if_neg (by omega), if_pos rfl]
      · unfold rOpenAt
        rw [upd_ne _ _ (by omega), if_pos (by omega)]; congr 1; omega
      · have e3 : rOpenAt v t k' (nI p) (rB t k' + 3) = v (rAt t + 9) := by
          unfold rOpenAt
          rw [upd_ne _ _ (by omega), if_pos (by omega)]; congr 1; omega
        rw [e3] at hb
        rw [q2M' c hc, w2 c hc hb]
        unfold rOpenAt
        rw [upd_ne _ _ (by omega), if_pos (by omega)]; congr 1; omega
    · have hB' : rB t k' = rAt t + 17 + 10 * k' := rfl
      obtain ⟨c1, c2, c3, c4, c5, c6⟩ := b k' (by rw [hk, cl (by omega)]; omega)
      have et : rTok (rOpenAt v t k (nI p)) t k' = rTok v t k' := by unfold rTok; rw [show rB t k' = rB t k' + 0 from rfl, ob k' 0 (by omega) (by omega)]
      unfold RkB1
      rw [et, oM' (w + 6 + 3 * k') (by omega) (by omega) (by omega), oM' (w + 6 + 3 * k' + 1) (by omega) (by omega) (by omega), oM' (w + 6 + 3 * k' + 2) (by omega) (by omega) (by omega), oM (w + 6 + 3 * k') (by omega), oM (w + 6 + 3 * k' + 1) (by omega), oM (w + 6 + 3 * k' + 2) (by omega), ob k' 1 (by omega) (by omega), ob k' 2 (by omega) (by omega), ob k' 3 (by omega) (by omega)]
      refine ⟨c1, c2, c3, c4, c5, fun c hc hb => ?_⟩
      rw [show rB t k' + 4 + c = rB t k' + (4 + c) by omega, ob k' (4 + c) (by omega) (by omega), show rB t k' + (4 + c) = rB t k' + 4 + c by omega]
      exact c6 c hc hb
