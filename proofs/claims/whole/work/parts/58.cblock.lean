/-! the class: a worker's own steps -/
theorem Rk_fields {G : Prg} {m m' : ct_M} {w t : Nat} {v v' : Row} (h : Rk G m w v t) (hf : RkF m' w v' t) (hm : ∀ q, w < q → q < w + 15 → m'.1 q = m.1 q) (hv : ∀ j, (3 ≤ j ∧ j < 16) ∨ (17 ≤ j ∧ j < 47) → v' (rAt t + j) = v (rAt t + j)) (hc : (v' (rAt t + 16)).toNatClampNeg ≤ (v (rAt t + 16)).toNatClampNeg) (hk : (v (rAt t + 16)).toNatClampNeg ≤ 3) : Rk G m' w v' t := by
  obtain ⟨-, ⟨⟨n, n1, n2⟩, r2⟩, ⟨w1, w2⟩, b⟩ := h
  refine ⟨hf, ⟨⟨n, n1, ?_⟩, fun c hc => ?_⟩, ⟨?_, fun c hc => ?_⟩, fun k hk' => ?_⟩
  · rw [hm (w + 1) (by omega) (by omega)]; exact n2
  · rw [hm (w + 1) (by omega) (by omega), hm (w + 2) (by omega) (by omega), Nat.add_assoc, hv (3 + c) (by omega), ← Nat.add_assoc]; exact r2 c hc
  · rw [hm (w + 3) (by omega) (by omega), hv 9 (by omega)]; exact w1
  · rw [hm (w + 4) (by omega) (by omega), hv 9 (by omega), Nat.add_assoc, hv (10 + c) (by omega), ← Nat.add_assoc]; exact w2 c hc
  · have hk2 : k < (v (rAt t + 16)).toNatClampNeg := by omega
    have hB : ∀ j, j < 10 → v' (rB t k + j) = v (rB t k + j) := fun j hj => by
      have := hv (17 + 10 * k + j) (by omega)
      rw [show rB t k + j = rAt t + (17 + 10 * k + j) by unfold rB; omega]; exact this
    have et : rTok v' t k = rTok v t k := by unfold rTok; rw [show rB t k = rB t k + 0 from rfl, hB 0 (by omega)]
    obtain ⟨b1, b2, b3, b4, b5, b6⟩ := b k hk2
    unfold RkB1
    rw [et, hm (w + 6 + 3 * k) (by omega) (by omega), hm (w + 6 + 3 * k + 1) (by omega) (by omega), hm (w + 6 + 3 * k + 2) (by omega) (by omega), hB 1 (by omega), hB 2 (by omega), hB 3 (by omega)]
    refine ⟨b1, b2, b3, b4, b5, fun c hc hb => ?_⟩
    rw [show rB t k + 4 + c = rB t k + (4 + c) by omega, hB (4 + c) (by omega), show rB t k + (4 + c) = rB t k + 4 + c by omega]
    exact b6 c hc hb
theorem Rk_pos {G : Prg} {m : ct_M} {w t : Nat} {v : Row} (h : Rk G m w v t) (hk : (v (rAt t + 16)).toNatClampNeg ≤ 3) (x : Int32) : Rk G (ct_st m w 5 x) w (upd v (rAt t + 1) x) t := by
  obtain ⟨a1, a2, a3, a4, a5, a6⟩ := h.1
  refine Rk_fields h ⟨?_, ?_, ?_, ?_, ?_, ?_⟩ (fun q q1 q2 => ct_st_ne (by omega)) (fun j hj => upd_ne _ _ (by omega)) (by rw [upd_ne _ _ (by omega)]; exact Nat.le_refl _) hk
  all_goals rw [ct_st_eq]
  all_goals first | (rw [upd_same, upd_same]; done) | (rw [upd_ne _ _ (by decide), upd_ne _ _ (by omega)]; assumption)
theorem Rk_sum {G : Prg} {m : ct_M} {w t : Nat} {v : Row} (h : Rk G m w v t) (hk : (v (rAt t + 16)).toNatClampNeg ≤ 3) (x : Int32) : Rk G (ct_st m w 4 x) w (upd v (rAt t + 2) x) t := by
  obtain ⟨a1, a2, a3, a4, a5, a6⟩ := h.1
  refine Rk_fields h ⟨?_, ?_, ?_, ?_, ?_, ?_⟩ (fun q q1 q2 => ct_st_ne (by omega)) (fun j hj => upd_ne _ _ (by omega)) (by rw [upd_ne _ _ (by omega)]; exact Nat.le_refl _) hk
  all_goals rw [ct_st_eq]
  all_goals first | (rw [upd_same, upd_same]; done) | (rw [upd_ne _ _ (by decide), upd_ne _ _ (by omega)]; assumption)
theorem Rk_cond {G : Prg} {m : ct_M} {w t : Nat} {v : Row} (h : Rk G m w v t) (hk : (v (rAt t + 16)).toNatClampNeg ≤ 3) (x : Int32) : Rk G (ct_st m w 1 x) w (upd v (rAt t) x) t := by
  obtain ⟨a1, a2, a3, a4, a5, a6⟩ := h.1
  refine Rk_fields h ⟨?_, ?_, ?_, ?_, ?_, ?_⟩ (fun q q1 q2 => ct_st_ne (by omega)) (fun j hj => upd_ne _ _ (by omega)) (by rw [upd_ne _ _ (by omega)]; exact Nat.le_refl _) hk
  all_goals rw [ct_st_eq]
  all_goals first | (rw [upd_same, upd_same]; done) | (rw [upd_ne _ _ (by decide), upd_ne _ _ (by omega)]; assumption)
theorem Rk_runs {G : Prg} {m : ct_M} {w t : Nat} {v : Row} (h : Rk G m w v t) (hk : (v (rAt t + 16)).toNatClampNeg ≤ 3) (x : Int32) : Rk G (ct_st m w 2 x) w (upd v (rAt t + 47) x) t := by
  obtain ⟨a1, a2, a3, a4, a5, a6⟩ := h.1
  refine Rk_fields h ⟨?_, ?_, ?_, ?_, ?_, ?_⟩ (fun q q1 q2 => ct_st_ne (by omega)) (fun j hj => upd_ne _ _ (by omega)) (by rw [upd_ne _ _ (by omega)]; exact Nat.le_refl _) hk
  all_goals rw [ct_st_eq]
  all_goals first | (rw [upd_same, upd_same]; done) | (rw [upd_ne _ _ (by decide), upd_ne _ _ (by omega)]; assumption)
theorem Rk_count {G : Prg} {m : ct_M} {w t : Nat} {v : Row} (h : Rk G m w v t) (hk : (v (rAt t + 16)).toNatClampNeg ≤ 3) (x : Int32) (hx : x.toNatClampNeg ≤ (v (rAt t + 16)).toNatClampNeg) : Rk G (ct_st m w 9 x) w (upd v (rAt t + 16) x) t := by
  obtain ⟨a1, a2, a3, a4, a5, a6⟩ := h.1
  refine Rk_fields h ⟨?_, ?_, ?_, ?_, ?_, ?_⟩ (fun q q1 q2 => ct_st_ne (by omega)) (fun j hj => upd_ne _ _ (by omega)) (by rw [upd_same]; exact hx) hk
  all_goals rw [ct_st_eq]
  all_goals first | (rw [upd_same, upd_same]; done) | (rw [upd_ne _ _ (by decide), upd_ne _ _ (by omega)]; assumption)
theorem bit_or : ∀ (n c d : Nat), n < 64 → c < 6 → d < 6 → (∃ r : Nat, r < 64 ∧ nI n ||| ((1 : Int32) <<< (nI c &&& 31)) = nI r) ∧ (bitSet (nI n ||| ((1 : Int32) <<< (nI c &&& 31))) d ↔ d = c ∨ bitSet (nI n) d) := by
  have h : ∀ n, n < 64 → ∀ c, c < 6 → (nI n ||| ((1 : Int32) <<< (nI c &&& 31)) = nI (n ||| (1 <<< c)) ∧ n ||| (1 <<< c) < 64) ∧ ∀ d, d < 6 → (((nI n ||| ((1 : Int32) <<< (nI c &&& 31))) >>> (nI d &&& 31)) &&& 1 = 1 ↔ d = c ∨ (nI n >>> (nI d &&& 31)) &&& 1 = 1) := by decide +kernel
  intro n c d hn hc hd
  exact ⟨⟨_, (h n hn c hc).1.2, (h n hn c hc).1.1⟩, (h n hn c hc).2 d hd⟩
theorem c_closeBlock {G : Prg} {w t k : Nat} {v : Row} {Q : ct_M → Prop} {m : ct_M} (h : Rk G m w v t) (hk : v (rAt t + 16) = nI (k + 1)) (hk3 : k < 3) (hq : Rk G (ct_st m w 9 (nI k)) w (rPop v t) t → Q (ct_st m w 9 (nI k))) : wp_X9_closeBlock w Q m := by
  have e : m.1 w 9 = nI (k + 1) := by rw [h.1.2.2.2.2.2]; exact hk
  have e1 : nI (k + 1) - 1 = nI k := (by decide : ∀ k, k < 3 → nI (k + 1) - 1 = nI k) k hk3
  unfold wp_X9_closeBlock
  rw [e, e1]
  intro m1 h1
  have z : (if (0 : Int32) < nI k then nI k else 0) = nI k := (by decide : ∀ k, k < 3 → (if (0 : Int32) < nI k then nI k else 0) = nI k) k hk3
  subst h1
  have hh := Rk_count h (by rw [hk, cl (by omega)]; omega) (nI k) (by rw [hk, cl (by omega), cl (by omega)]; omega)
  have : rPop v t = upd v (rAt t + 16) (nI k) := by unfold rPop; rw [hk, e1]
  rw [← this] at hh
  first | (rw [z]; exact hq hh) | exact hq hh
/-- the block that the class holds at place k is brought back -/
theorem c_goBack {G : Prg} {w t n : Nat} {v : Row} {ℓ : Int32} {Q : Int32 → ct_M → Prop} {m : ct_M} (hw : WL w) (h : Rk G m w v t) (hn : v (rAt t + 16) = nI n) (hn3 : n ≤ 3)
    (hN : (∀ k, k < n → ¬ (G 1026 (60 * t + rTok v t k) = ℓ ∧ v (rB t k + 1) = 0)) → Q (-1) m)
    (hS : ∀ k, k < n → G 1026 (60 * t + rTok v t k) = ℓ → v (rB t k + 1) = 0 → (∀ q, k < q → q < n → ¬ (G 1026 (60 * t + rTok v t q) = ℓ ∧ v (rB t q + 1) = 0)) → Q (nI k) (ct_st (cCopy (ct_st m w 4 (m.1 (w + 6 + 3 * k) 3)) (w + 3) (w + 6 + 3 * k + 1)) w 5 (m.1 (w + 6 + 3 * k) 2))) : wp_X9_goBack w ℓ Q m := by
  obtain ⟨l1, l2, l3, l4⟩ := hw
  have hcnt : m.1 w 9 = nI n := by rw [h.1.2.2.2.2.2]; exact hn
  have loop : ∀ (j : Nat), j ≤ n → (∀ q, j ≤ q → q < n → ¬ (G 1026 (60 * t + rTok v t q) = ℓ ∧ v (rB t q + 1) = 0)) → ∀ x : Int32, x = nI j - 1 → wb_X9_goBack_11 Q (j + 1) w ℓ x m := by
    intro j
    induction j with
    | zero =>
      intro _ hp x hx
      subst hx
      unfold wb_X9_goBack_11
      exact ⟨fun _ => hN fun k hk => hp k (Nat.zero_le _) hk, fun e => absurd (by decide) e⟩
    | succ j ih =>
      intro hj hp x hx
      have e1 : nI (j + 1) - 1 = nI j := (by decide : ∀ k, k < 3 → nI (k + 1) - 1 = nI k) j (by omega)
      rw [hx, e1]
      obtain ⟨b1, b2, b3, b4, b5⟩ := h.2.2.2 j (by rw [hn, cl (by omega)]; omega)
      have nx : ¬ (G 1026 (60 * t + rTok v t j) = ℓ ∧ v (rB t j + 1) = 0) → wb_X9_goBack_66 (wb_X9_goBack_11 Q (j + 1)) Q w ℓ (nI j) m := by
        intro hno
        unfold wb_X9_goBack_66
        intro y hy
        refine ih (by omega) (fun q q1 q2 => ?_) y (by rw [hy]; exact nI_neg1 j)
        by_cases e : q = j
        · subst e; exact hno
        · exact hp q (by omega) q2
      have ew : w + 5 + 1 + 3 * j = w + 6 + 3 * j := rfl
      unfold wb_X9_goBack_11
      simp (disch := omega) only [vp_nI, cl, l3, fa_eq, ew]
      refine ⟨fun e => absurd e (nI_pos (by omega)), fun _ => ⟨by omega, fun e => nx fun z => e (by rw [b1]; exact z.1), fun e => ⟨fun e2 => nx fun z => e2 (by rw [b2]; exact z.2), fun e2 => ?_⟩⟩⟩
      have l4' := l4 j (by omega)
      refine c_copy l2 (by rw [show w + 6 + 3 * j + 1 + 1 = w + 6 + 3 * j + 2 from rfl]; exact l4') (by omega) (by omega) (by omega) ?_
      have hs := hS j (by omega) (by rw [← b1]; exact e) (by rw [← b2]; exact e2) (fun q q1 q2 => hp q (by omega) q2)
      have e3 : (cCopy (ct_st m w 4 (m.1 (w + 6 + 3 * j) 3)) (w + 3) (w + 6 + 3 * j + 1)).1 (w + 6 + 3 * j) = m.1 (w + 6 + 3 * j) := by
        unfold cCopy
        rw [pr_ne _ _ (by omega), pr_ne _ _ (by omega), ct_st_ne (by omega)]
      rw [e3]
      exact hs
  unfold wp_X9_goBack
  intro x hx
  refine ⟨n + 1, loop n (Nat.le_refl _) (fun q q1 q2 => by omega) x ?_⟩
  rw [hx, hcnt]
  exact congrArg (· - 1) ((by decide : ∀ k, k < 4 → (if (3 : Int32) < nI k then (3 : Int32) else nI k) = nI k) n (by omega))
