/-! the class: going back, retrying, abandoning, opening -/
theorem upd_comm (f : Row) {i j : Nat} (x y : Int32) (h : i ≠ j) : upd (upd f i x) j y = upd (upd f j y) i x := by
  funext q
  simp only [upd]
  (repeat' split) <;> first | rfl | (exfalso; omega)
theorem Fr.copy {m : ct_M} {a b lo hi : Nat} (h1 : lo ≤ a) (h2 : a + 1 < hi) (h3 : ¬ Bk lo hi a := by unfold Bk; omega) (h4 : ¬ Bk lo hi (a + 1) := by unfold Bk; omega) : Fr m (cCopy m a b) lo hi :=
  (Fr.pr (by omega) (by omega) h3).tr (Fr.pr (by omega) (by omega) h4)
def cBack (m : ct_M) (w k : Nat) : ct_M := ct_st (cCopy (ct_st m w 4 (m.1 (w + 6 + 3 * k) 3)) (w + 3) (w + 6 + 3 * k + 1)) w 5 (m.1 (w + 6 + 3 * k) 2)
theorem Fr_back {m : ct_M} {w k : Nat} : Fr m (cBack m w k) w (w + 15) :=
  ((Fr.st (by omega) (by omega)).tr (Fr.copy (by omega) (by omega))).tr (Fr.st (by omega) (by omega))
theorem Rk_back {G : Prg} {m : ct_M} {w t k : Nat} {v : Row} (h : Rk G m w v t) (hk : k < (v (rAt t + 16)).toNatClampNeg) (hk3 : (v (rAt t + 16)).toNatClampNeg ≤ 3) : Rk G (cBack m w k) w (upd (rBring v t (rB t k)) (rAt t + 1) (m.1 (w + 6 + 3 * k) 2)) t := by
  have hB : ∀ k, rB t k = rAt t + 17 + 10 * k := fun _ => rfl
  obtain ⟨⟨a1, a2, a3, a4, a5, a6⟩, ⟨⟨n, n1, n2⟩, r2⟩, ⟨w1, w2⟩, b⟩ := h
  obtain ⟨b1, b2, b3, b4, b5, b6⟩ := b k hk
  have z : ∀ j, 2 < j → (j < 9 ∨ 16 ≤ j) → upd (rBring v t (rB t k)) (rAt t + 1) (m.1 (w + 6 + 3 * k) 2) (rAt t + j) = v (rAt t + j) := fun j h1 h2 => by
    rw [upd_ne _ _ (by omega)]; unfold rBring; rw [if_neg (by omega), if_neg (by omega)]
  have y : ∀ j, 9 ≤ j → j < 16 → upd (rBring v t (rB t k)) (rAt t + 1) (m.1 (w + 6 + 3 * k) 2) (rAt t + j) = v (rB t k + 3 + (j - 9)) := fun j h1 h2 => by
    rw [upd_ne _ _ (by omega)]; unfold rBring; rw [if_pos (by omega)]; congr 1; omega
  have eW : (cBack m w k).1 w = upd (upd (m.1 w) 4 (m.1 (w + 6 + 3 * k) 3)) 5 (m.1 (w + 6 + 3 * k) 2) := by
    unfold cBack cCopy
    simp (disch := omega) only [ct_st_eq, pr_ne]
  have eO : ∀ q, q ≠ w → q ≠ w + 3 → q ≠ w + 4 → (cBack m w k).1 q = m.1 q := fun q h1 h2 h3 => by
    unfold cBack cCopy
    rw [ct_st_ne h1, pr_ne _ _ h3, pr_ne _ _ h2, ct_st_ne h1]
  refine ⟨⟨?_, ?_, ?_, ?_, ?_, ?_⟩, ⟨⟨n, n1, ?_⟩, fun c hc => ?_⟩, ⟨?_, fun c hc hb => ?_⟩, fun k' hk' => ?_⟩
  · rw [eW, upd_ne _ _ (by decide), upd_ne _ _ (by decide), upd_ne _ _ (by omega)]
    unfold rBring; rw [if_neg (by omega), if_neg (by omega)]; exact a1
  · rw [eW, upd_ne _ _ (by decide), upd_ne _ _ (by decide), z 47 (by omega) (by omega)]; exact a2
  · rw [eW, upd_ne _ _ (by decide), upd_ne _ _ (by decide), z 48 (by omega) (by omega)]; exact a3
  · rw [eW, upd_ne _ _ (by decide), upd_same, upd_ne _ _ (by omega)]
    unfold rBring; rw [if_neg (by omega), if_pos rfl]; exact b4
  · rw [eW, upd_same, upd_same]
  · rw [eW, upd_ne _ _ (by decide), upd_ne _ _ (by decide), z 16 (by omega) (by omega)]; exact a6
  · rw [eO _ (by omega) (by omega) (by omega)]; exact n2
  · rw [eO (w + 1) (by omega) (by omega) (by omega), eO (w + 2) (by omega) (by omega) (by omega), show rAt t + 3 + c = rAt t + (3 + c) by omega, z (3 + c) (by omega) (by omega), show rAt t + (3 + c) = rAt t + 3 + c by omega]; exact r2 c hc
  · rw [y 9 (by omega) (by omega)]
    unfold cBack cCopy
    rw [ct_st_ne (by omega), pr_ne _ _ (by omega), pr_at, upd_same, ct_st_ne (by omega)]
    exact b5
  · rw [y 9 (by omega) (by omega)] at hb
    rw [show rAt t + 10 + c = rAt t + (10 + c) by omega, y (10 + c) (by omega) (by omega)]
    unfold cBack cCopy
    rw [ct_st_ne (by omega), show w + 4 = w + 3 + 1 from rfl, pr_at]
    simp only [hc, if_true]
    rw [ct_st_ne (by omega), show w + 6 + 3 * k + 1 + 1 = w + 6 + 3 * k + 2 from rfl, b6 c hc hb]
    congr 1; omega
  · rw [z 16 (by omega) (by omega)] at hk'
    have hz : ∀ j, j < 10 → upd (rBring v t (rB t k)) (rAt t + 1) (m.1 (w + 6 + 3 * k) 2) (rB t k' + j) = v (rB t k' + j) := fun j hj => by
      have := z (17 + 10 * k' + j) (by omega) (by omega)
      rw [show rB t k' + j = rAt t + (17 + 10 * k' + j) by unfold rB; omega]; exact this
    have et : rTok (upd (rBring v t (rB t k)) (rAt t + 1) (m.1 (w + 6 + 3 * k) 2)) t k' = rTok v t k' := by unfold rTok; rw [show rB t k' = rB t k' + 0 from rfl, hz 0 (by omega)]
    obtain ⟨c1, c2, c3, c4, c5, c6⟩ := b k' hk'
    unfold RkB1
    rw [et, eO (w + 6 + 3 * k') (by omega) (by omega) (by omega), eO (w + 6 + 3 * k' + 1) (by omega) (by omega) (by omega), eO (w + 6 + 3 * k' + 2) (by omega) (by omega) (by omega), hz 1 (by omega), hz 2 (by omega), hz 3 (by omega)]
    refine ⟨c1, c2, c3, c4, c5, fun c hc hb => ?_⟩
    rw [show rB t k' + 4 + c = rB t k' + (4 + c) by omega, hz (4 + c) (by omega), show rB t k' + (4 + c) = rB t k' + 4 + c by omega]
    exact c6 c hc hb
theorem Rk_flag {G : Prg} {m : ct_M} {w t k : Nat} {v : Row} (h : Rk G m w v t) (hk : k < 3) (hk3 : (v (rAt t + 16)).toNatClampNeg ≤ 3) (x : Int32) : Rk G (ct_st m (w + 6 + 3 * k) 1 x) w (upd v (rB t k + 1) x) t := by
  have hB : rB t k = rAt t + 17 + 10 * k := rfl
  obtain ⟨⟨a1, a2, a3, a4, a5, a6⟩, ⟨⟨n, n1, n2⟩, r2⟩, ⟨w1, w2⟩, b⟩ := h
  have z : ∀ j, j < 17 ∨ 47 ≤ j → upd v (rB t k + 1) x (rAt t + j) = v (rAt t + j) := fun j hj => upd_ne _ _ (by omega)
  have e : ∀ q, q < w + 6 → (ct_st m (w + 6 + 3 * k) 1 x).1 q = m.1 q := fun q hq => ct_st_ne (by omega)
  refine ⟨⟨?_, ?_, ?_, ?_, ?_, ?_⟩, ⟨⟨n, n1, ?_⟩, fun c hc => ?_⟩, ⟨?_, fun c hc hb => ?_⟩, fun k' hk' => ?_⟩
  · rw [e _ (by omega), show rAt t = rAt t + 0 from rfl, z 0 (by omega)]; exact a1
  · rw [e _ (by omega), z 47 (by omega)]; exact a2
  · rw [e _ (by omega), z 48 (by omega)]; exact a3
  · rw [e _ (by omega), z 2 (by omega)]; exact a4
  · rw [e _ (by omega), z 1 (by omega)]; exact a5
  · rw [e _ (by omega), z 16 (by omega)]; exact a6
  · rw [e _ (by omega)]; exact n2
  · rw [e _ (by omega), e _ (by omega), show rAt t + 3 + c = rAt t + (3 + c) by omega, z (3 + c) (by omega), show rAt t + (3 + c) = rAt t + 3 + c by omega]; exact r2 c hc
  · rw [e _ (by omega), z 9 (by omega)]; exact w1
  · rw [z 9 (by omega)] at hb
    rw [e _ (by omega), show rAt t + 10 + c = rAt t + (10 + c) by omega, z (10 + c) (by omega), show rAt t + (10 + c) = rAt t + 10 + c by omega]; exact w2 c hc hb
  · rw [z 16 (by omega)] at hk'
    have hB' : rB t k' = rAt t + 17 + 10 * k' := rfl
    obtain ⟨c1, c2, c3, c4, c5, c6⟩ := b k' hk'
    have hz : ∀ j, j < 10 → j ≠ 1 → upd v (rB t k + 1) x (rB t k' + j) = v (rB t k' + j) := fun j hj h1 => upd_ne _ _ (by omega)
    have et : rTok (upd v (rB t k + 1) x) t k' = rTok v t k' := by unfold rTok; rw [show rB t k' = rB t k' + 0 from rfl, hz 0 (by omega) (by omega)]
    unfold RkB1
    rw [et, ct_st_ne (by omega : w + 6 + 3 * k' + 1 ≠ w + 6 + 3 * k), ct_st_ne (by omega : w + 6 + 3 * k' + 2 ≠ w + 6 + 3 * k), hz 2 (by omega) (by omega), hz 3 (by omega) (by omega)]
    refine ⟨?_, ?_, ?_, ?_, c5, fun c hc hb => ?_⟩
    · by_cases ek : k' = k
      · subst ek; rw [ct_st_eq, upd_ne _ _ (by decide)]; exact c1
      · rw [ct_st_ne (by omega)]; exact c1
    · by_cases ek : k' = k
      · subst ek; rw [ct_st_eq, upd_same, upd_same]
      · rw [ct_st_ne (by omega), upd_ne _ _ (by omega)]; exact c2
    · by_cases ek : k' = k
      · subst ek; rw [ct_st_eq, upd_ne _ _ (by decide)]; exact c3
      · rw [ct_st_ne (by omega)]; exact c3
    · by_cases ek : k' = k
      · subst ek; rw [ct_st_eq, upd_ne _ _ (by decide)]; exact c4
      · rw [ct_st_ne (by omega)]; exact c4
    · rw [show rB t k' + 4 + c = rB t k' + (4 + c) by omega, hz (4 + c) (by omega) (by omega), show rB t k' + (4 + c) = rB t k' + 4 + c by omega]
      exact c6 c hc hb
theorem rBring_cnt {v : Row} {t b : Nat} : rBring v t b (rAt t + 16) = v (rAt t + 16) := by
  unfold rBring; rw [if_neg (by omega), if_neg (by omega)]
/-- retrying: the worker's part -/
theorem c_retry {G : Prg} {b w t n : Nat} {v : Row} {ww : Int32} {Q : Int32 → ct_M → Prop} {m : ct_M} (hb : ct_ln (b + 2) = 6) (hbw : b + 2 < w ∨ w + 15 ≤ b) (hw : WL w) (h : Rk G m w v t) (hn : v (rAt t + 16) = nI n) (hn3 : n ≤ 3) (hv : ∀ c, c < 6 → m.1 (b + 2) c = v (6 + c))
    (hq : ∀ m', Fr m m' w (w + 15) → Rk G m' w (fRetry G v t ww).2.1 t → Q (fRetry G v t ww).1 m') : wp_X10_retry b w Q m := by
  have hc3 : (v (rAt t + 16)).toNatClampNeg = n := by rw [hn, cl (by omega)]
  unfold wp_X10_retry
  refine c_goBack hw h hn hn3 (fun hno => ⟨fun _ => ?_, fun e => absurd (by decide) e⟩) (fun k hk e1 e2 hno => ?_)
  · have ef : rFind (canR G v t) n = none := rFind_none fun k hk z => hno k hk z
    unfold fRetry at hq
    rw [hc3, ef] at hq
    unfold wb_X10_retry_35
    refine c_current hb hw hv h.2.1 (fun hval => ⟨fun _ => ?_, fun e => absurd e (by decide)⟩) (fun hval => ⟨fun e => absurd rfl e, fun _ => ?_⟩)
    · simp only [cif_t hval] at hq
      intro m4 h4
      subst h4
      exact hq _ (Fr.st (by omega) (by omega)) (Rk_cond h (by rw [hc3]; omega) 1)
    · simp only [cif_f hval] at hq
      exact c_startAgain (fun m2 f2 e1 e2 e3 => hq m2 f2 (Rk_restart h e1 e2 e3))
  · have ef : rFind (canR G v t) n = some k := rFind_some hk ⟨e1, e2⟩ fun q q1 q2 z => hno q q1 q2 z
    unfold fRetry at hq
    rw [hc3, ef] at hq
    have hB : rB t k = rAt t + 17 + 10 * k := rfl
    have hl := hw.2.2.1
    refine ⟨fun e => absurd e (nI_pos (by omega)), fun _ => ?_⟩
    simp (disch := omega) only [nI_ofNat, cmp_le, vp_nI, cl, fa_eq, hl, nI_add, show w + 5 + 1 + 3 * k = w + 6 + 3 * k from rfl]
    refine ⟨fun e => absurd e (by omega), fun _ => ⟨by omega, ?_⟩⟩
    refine hq _ ((Fr_back.tr (Fr.stB (by omega) (by omega) ⟨fun e => absurd e (by decide), fun _ => okZ1⟩)).tr (Fr.st (by omega) (by omega))) ?_
    have r1 := Rk_back h (k := k) (by omega) (by omega)
    have r2 := Rk_flag (k := k) r1 (by omega) (by rw [upd_ne _ _ (by omega), rBring_cnt]; omega) 1
    have c2 : upd (upd (rBring v t (rB t k)) (rAt t + 1) (m.1 (w + 6 + 3 * k) 2)) (rB t k + 1) 1 (rAt t + 16) = v (rAt t + 16) := by
      rw [upd_ne _ _ (by omega), upd_ne _ _ (by omega), rBring_cnt]
    have r3 := Rk_count r2 (by rw [c2]; omega) (nI (k + 1)) (by rw [c2, hc3, cl (by omega)]; omega)
    have eb : m.1 (w + 6 + 3 * k) 2 = G 1028 (60 * t + rTok v t k) + 1 := by
      rw [(h.2.2.2 k (by omega)).2.2.1, if_pos e1]
    rw [eb] at r3
    have er : upd (upd (upd (rBring v t (rB t k)) (rAt t + 1) (G 1028 (60 * t + rTok v t k) + 1)) (rB t k + 1) 1) (rAt t + 16) (nI (k + 1)) = rRetryAt v t k (G 1028 (60 * t + rTok v t k)) := by
      unfold rRetryAt
      rw [upd_comm (rBring v t (rB t k)) _ _ (by omega : rAt t + 1 ≠ rB t k + 1), upd_comm _ _ _ (by omega : rAt t + 1 ≠ rAt t + 16)]
    rw [er] at r3
    exact r3
theorem c_abandon {G : Prg} {b w t n : Nat} {v : Row} {ww : Int32} {Q : Int32 → ct_M → Prop} {m : ct_M} (hw : WL w) (h : Rk G m w v t) (hn : v (rAt t + 16) = nI n) (hn3 : n ≤ 3) (hfl : ∀ k, k < n → G 1026 (60 * t + rTok v t k) = 123 → v (rB t k + 1) = 0)
    (hq : ∀ m', Fr m m' w (w + 15) → Rk G m' w (fAband G v t ww).2.1 t → Q (fAband G v t ww).1 m') : wp_X10_abandon b w Q m := by
  have hc3 : (v (rAt t + 16)).toNatClampNeg = n := by rw [hn, cl (by omega)]
  unfold wp_X10_abandon
  refine c_goBack hw h hn hn3 (fun hno => ⟨fun _ => ?_, fun e => absurd (by decide) e⟩) (fun k hk e1 e2 hno => ?_)
  · have ef : rFind (canX G v t) n = none := rFind_none fun k hk z => hno k hk ⟨z, hfl k hk z⟩
    unfold fAband at hq
    rw [hc3, ef] at hq
    exact c_become (fun m2 f2 e1 e2 e3 _ => hq m2 f2 (Rk_stop h e1 e2 e3))
  · have ef : rFind (canX G v t) n = some k := rFind_some hk e1 fun q q1 q2 z => hno q q1 q2 ⟨z, hfl q q2 z⟩
    unfold fAband at hq
    rw [hc3, ef] at hq
    have hB : rB t k = rAt t + 17 + 10 * k := rfl
    refine ⟨fun e => absurd e (nI_pos (by omega)), fun _ => ?_⟩
    simp only [fa_eq]
    refine hq _ (Fr_back.tr (Fr.st (by omega) (by omega))) ?_
    have r1 := Rk_back h (k := k) (by omega) (by omega)
    have c2 : upd (rBring v t (rB t k)) (rAt t + 1) (m.1 (w + 6 + 3 * k) 2) (rAt t + 16) = v (rAt t + 16) := by
      rw [upd_ne _ _ (by omega), rBring_cnt]
    have r3 := Rk_count r1 (by rw [c2]; omega) (nI k) (by rw [c2, hc3, cl (by omega)]; omega)
    have eb : m.1 (w + 6 + 3 * k) 2 = G 1029 (60 * t + rTok v t k) + 1 := by
      rw [(h.2.2.2 k (by omega)).2.2.1, if_neg (by rw [e1]; decide)]
    rw [eb] at r3
    have er : upd (upd (rBring v t (rB t k)) (rAt t + 1) (G 1029 (60 * t + rTok v t k) + 1)) (rAt t + 16) (nI k) = rAbandAt v t k (G 1029 (60 * t + rTok v t k)) := by
      unfold rAbandAt
      rw [upd_comm _ _ _ (by omega : rAt t + 1 ≠ rAt t + 16)]
    rw [er] at r3
    exact r3
