/-! the class: execute -/
theorem c_execute {G : Prg} {b w t n p k0 : Nat} {v : Row} {ww : Int32} {Q : Int32 → ct_M → Prop} {m : ct_M} (hb : ct_K 10 b) (hbw : b + 7 ≤ w) (hw : WL w) (hpg : ct_pg w = 11 + 5 * t) (ht : t < 3) (hP : PG G m (11 + 5 * t) t n) (hPw : 11 + 5 * t + 3 < w) (h : Rk G m w v t) (hv : RWv m b v) (hok : TokOK G v t n p k0) (hl : Lets G t n)
    (hq : ∀ m', Fr m m' w (w + 15) → Rk G m' w (fToken G v t ww).2.1 t → Q (fToken G v t ww).1 m') : wp_X10_execute b w (G 1026 (60 * t + p)) (G 1027 (60 * t + p)) Q m := by
  obtain ⟨hp, hpn, hn6, hk, hk3, hfl, hop, hcl, hwm, hver⟩ := hok
  have hpc : (v (rAt t + 1)).toNatClampNeg = p := by rw [hp, cl (by omega)]
  have hkc : (v (rAt t + 16)).toNatClampNeg = k0 := by rw [hk, cl (by omega)]
  have hc3 : (v (rAt t + 16)).toNatClampNeg ≤ 3 := by omega
  have hll := hl p hpn
  have hexit : ∀ (u : Row) (m1 : ct_M), Fr m m1 w (w + 15) → Rk G m1 w u t → (u (rAt t + 16)).toNatClampNeg ≤ 3 → (fToken G v t ww = (0, rPos u t, ww)) → wb_X10_execute_207 Q w m1 := by
    intro u m1 f1 r1 h3 e1
    refine c_207 r1 h3 (fun m2 f2 r2 => ?_)
    rw [e1] at hq
    exact hq m2 (f1.tr f2) r2
  have plain : ∀ ℓ d : Int32, G 1026 (60 * t + p) = ℓ → G 1027 (60 * t + p) = d → ¬ (ℓ = 33 ∨ (ℓ = 63 ∧ ¬ d ≤ v (rAt t + 2))) → ¬ ℓ = 120 → fToken G v t ww = (0, fPlain G v t p ℓ d, ww) := by
    intro ℓ d h1 h2 h3 h4
    unfold fToken
    rw [hpc, h1, h2, cif_f h3, cif_f h4]
  have retry : ∀ ℓ d : Int32, G 1026 (60 * t + p) = ℓ → G 1027 (60 * t + p) = d → (ℓ = 33 ∨ (ℓ = 63 ∧ ¬ d ≤ v (rAt t + 2))) → wp_X10_retry b w Q m := by
    intro ℓ d h1 h2 h3
    have : fToken G v t ww = fRetry G v t ww := by
      unfold fToken
      rw [hpc, h1, h2, cif_t h3]
    rw [this] at hq
    exact c_retry (w_len hb).2.1 (Or.inl (by omega)) hw h hk hk3 hv.2 hq
  have h63 : ∀ ℓ d : Int32, ¬ ℓ = 33 → ¬ ℓ = 63 → ¬ (ℓ = 33 ∨ (ℓ = 63 ∧ ¬ d ≤ v (rAt t + 2))) := fun ℓ d h1 h2 z => z.elim h1 fun q => h2 q.1
  generalize hd : G 1027 (60 * t + p) = d at *
  unfold wp_X10_execute
  rcases hll with e | e | e | ⟨e, c, hc, ed⟩ | ⟨e, c, hc, ed⟩ | e | e | e | e | e | e | e
  · rw [e]
    refine ⟨fun _ => ?_, fun e => absurd rfl e⟩
    exact retry 33 d e rfl (Or.inl rfl)
  · rw [e]
    refine ⟨fun e => absurd e (by decide), fun _ => ⟨fun e => absurd e (by decide), fun _ => ⟨fun e => absurd e (by decide), fun _ => ⟨fun e => absurd e (by decide), fun _ => ⟨fun _ => ?_, fun e => absurd rfl e⟩⟩⟩⟩⟩
    rw [h.1.2.2.2.1]
    refine ⟨fun e2 => ?_, fun e2 => retry 63 d e rfl (Or.inr ⟨rfl, e2⟩)⟩
    exact hexit v m Fr.rfl' h hc3 (plain 63 d e rfl (fun z => z.elim (by decide) fun q => q.2 e2) (by decide))
  · rw [e]
    refine ⟨fun e => absurd e (by decide), fun _ => ⟨fun e => absurd e (by decide), fun _ => ⟨fun e => absurd e (by decide), fun _ => ⟨fun e => absurd e (by decide), fun _ => ⟨fun e => absurd e (by decide), fun _ => ⟨fun e => absurd e (by decide), fun _ => ⟨fun e => absurd e (by decide), fun _ => ⟨fun _ => ?_, fun e => absurd rfl e⟩⟩⟩⟩⟩⟩⟩⟩
    have : fToken G v t ww = fAband G v t ww := by
      unfold fToken
      rw [hpc, e, hd, cif_f (h63 120 d (by decide) (by decide)), cif_t rfl]
    rw [this] at hq
    exact c_abandon hw h hk hk3 hfl hq
  · rw [e]
    refine ⟨fun e => absurd e (by decide), fun _ => ⟨fun e => absurd e (by decide), fun _ => ⟨fun e => absurd e (by decide), fun _ => ⟨fun e => absurd e (by decide), fun _ => ⟨fun e => absurd e (by decide), fun _ => ⟨fun _ => ?_, fun e => absurd rfl e⟩⟩⟩⟩⟩⟩
    rw [ed]
    refine c_readCell hb hbw hw h hc3 hv hc (hver c hc) (fun m1 f1 r1 => hexit _ m1 f1 r1 (by rw [rRead_cnt hc]; exact hc3) ?_)
    rw [plain 114 d e rfl (h63 114 d (by decide) (by decide)) (by decide), ed, rPos_read hc]
    unfold fPlain
    rw [if_pos rfl, cl (by omega)]
  · rw [e]
    refine ⟨fun e => absurd e (by decide), fun _ => ⟨fun e => absurd e (by decide), fun _ => ⟨fun e => absurd e (by decide), fun _ => ⟨fun e => absurd e (by decide), fun _ => ⟨fun e => absurd e (by decide), fun _ => ⟨fun e => absurd e (by decide), fun _ => ⟨fun _ => ?_, fun e => absurd rfl e⟩⟩⟩⟩⟩⟩⟩
    rw [ed]
    refine c_put hc hw.2.1 (hexit (rWr v t c) _ (Fr.put (by omega) (by omega)) (Rk_write h hc3 hc hwm) (by unfold rWr; rw [upd_ne _ _ (by omega), upd_ne _ _ (by omega)]; exact hc3) ?_)
    rw [plain 119 d e rfl (h63 119 d (by decide) (by decide)) (by decide), ed, rPos_wr hc]
    unfold fPlain
    rw [if_neg (by decide), if_pos rfl, cl (by omega)]
  · rw [e]
    refine ⟨fun e => absurd e (by decide), fun _ => ⟨fun e => absurd e (by decide), fun _ => ⟨fun _ => ?_, fun e => absurd rfl e⟩⟩⟩
    refine c_clamp ?_
    intro m9 h9
    subst h9
    refine hexit (upd v (rAt t + 2) (rClamp (v (rAt t + 2) + d))) _ (Fr.st (by omega) (by omega)) (by rw [h.1.2.2.2.1]; exact Rk_sum h hc3 _) (by rw [upd_ne _ _ (by omega)]; exact hc3) ?_
    rw [plain 43 d e rfl (h63 43 d (by decide) (by decide)) (by decide), rPos_sum]
    rfl
  · rw [e]
    refine ⟨fun e => absurd e (by decide), fun _ => ⟨fun e => absurd e (by decide), fun _ => ⟨fun e => absurd e (by decide), fun _ => ⟨fun _ => ?_, fun e => absurd rfl e⟩⟩⟩⟩
    refine c_clamp ?_
    intro m9 h9
    subst h9
    refine hexit (upd v (rAt t + 2) (rClamp (v (rAt t + 2) - d))) _ (Fr.st (by omega) (by omega)) (by rw [h.1.2.2.2.1]; exact Rk_sum h hc3 _) (by rw [upd_ne _ _ (by omega)]; exact hc3) ?_
    rw [plain 45 d e rfl (h63 45 d (by decide) (by decide)) (by decide), rPos_sum]
    rfl
  · rw [e]
    refine ⟨fun e => absurd e (by decide), fun _ => ⟨fun _ => ?_, fun e => absurd rfl e⟩⟩
    refine c_openBlock hw hpg ht hP hn6 hPw h hp hpn hk (hop (Or.inl e)) e (Or.inl rfl) (fun m1 f1 _ r1 => hexit _ m1 f1 r1 ?_ ?_)
    · have : rOpenAt v t k0 (nI p) (rAt t + 16) = nI (k0 + 1) := by
        unfold rOpenAt
        rw [upd_same, hk, nI_ofNat 1, nI_add]
      have := hop (Or.inl e)
      rw [‹rOpenAt v t k0 (nI p) (rAt t + 16) = nI (k0 + 1)›, cl (by omega)]; omega
    · rw [plain 40 d e rfl (h63 40 d (by decide) (by decide)) (by decide), rPos_open]
      unfold fPlain
      rw [hkc]
      rfl
  · rw [e]
    refine ⟨fun e => absurd e (by decide), fun _ => ⟨fun e => absurd e (by decide), fun _ => ⟨fun e => absurd e (by decide), fun _ => ⟨fun e => absurd e (by decide), fun _ => ⟨fun e => absurd e (by decide), fun _ => ⟨fun e => absurd e (by decide), fun _ => ⟨fun e => absurd e (by decide), fun _ => ⟨fun e => absurd e (by decide), fun _ => ⟨fun _ => ?_, fun e => absurd rfl e⟩⟩⟩⟩⟩⟩⟩⟩⟩
    refine c_openBlock hw hpg ht hP hn6 hPw h hp hpn hk (hop (Or.inr e)) e (Or.inr rfl) (fun m1 f1 _ r1 => hexit _ m1 f1 r1 ?_ ?_)
    · have : rOpenAt v t k0 (nI p) (rAt t + 16) = nI (k0 + 1) := by
        unfold rOpenAt
        rw [upd_same, hk, nI_ofNat 1, nI_add]
      have := hop (Or.inr e)
      rw [‹rOpenAt v t k0 (nI p) (rAt t + 16) = nI (k0 + 1)›, cl (by omega)]; omega
    · rw [plain 123 d e rfl (h63 123 d (by decide) (by decide)) (by decide), rPos_open]
      unfold fPlain
      rw [hkc]
      rfl
  · rw [e]
    refine ⟨fun e => absurd e (by decide), fun _ => ⟨fun e => absurd e (by decide), fun _ => ⟨fun e => absurd e (by decide), fun _ => ⟨fun e => absurd e (by decide), fun _ => ⟨fun e => absurd e (by decide), fun _ => ⟨fun e => absurd e (by decide), fun _ => ⟨fun e => absurd e (by decide), fun _ => ⟨fun e => absurd e (by decide), fun _ => ⟨fun e => absurd e (by decide), fun _ => ⟨fun e => absurd e (by decide), fun _ => ?_⟩⟩⟩⟩⟩⟩⟩⟩⟩⟩
    obtain ⟨k, hkk⟩ : ∃ k, k0 = k + 1 := ⟨k0 - 1, by have := hcl (Or.inl e); omega⟩
    refine c_closeBlock h (by rw [hk, hkk]) (by omega) (fun r1 => ?_)
    have pc : (rPop v t (rAt t + 16)).toNatClampNeg ≤ 3 := by
      unfold rPop
      rw [upd_same, hk, hkk, (by decide : ∀ k, k < 3 → nI (k + 1) - 1 = nI k) k (by omega), cl (by omega)]
      omega
    refine hexit (rPop v t) _ (Fr.st (by omega) (by omega)) r1 pc ?_
    rw [plain 41 d e rfl (h63 41 d (by decide) (by decide)) (by decide), rPos_pop]
    rfl
  · rw [e]
    refine ⟨fun e => absurd e (by decide), fun _ => ⟨fun e => absurd e (by decide), fun _ => ⟨fun e => absurd e (by decide), fun _ => ⟨fun e => absurd e (by decide), fun _ => ⟨fun e => absurd e (by decide), fun _ => ⟨fun e => absurd e (by decide), fun _ => ⟨fun e => absurd e (by decide), fun _ => ⟨fun e => absurd e (by decide), fun _ => ⟨fun e => absurd e (by decide), fun _ => ⟨fun e => absurd e (by decide), fun _ => ?_⟩⟩⟩⟩⟩⟩⟩⟩⟩⟩
    obtain ⟨k, hkk⟩ : ∃ k, k0 = k + 1 := ⟨k0 - 1, by have := hcl (Or.inr (Or.inl e)); omega⟩
    refine c_closeBlock h (by rw [hk, hkk]) (by omega) (fun r1 => ?_)
    have pc : (rPop v t (rAt t + 16)).toNatClampNeg ≤ 3 := by
      unfold rPop
      rw [upd_same, hk, hkk, (by decide : ∀ k, k < 3 → nI (k + 1) - 1 = nI k) k (by omega), cl (by omega)]
      omega
    refine hexit (rPop v t) _ (Fr.st (by omega) (by omega)) r1 pc ?_
    rw [plain 125 d e rfl (h63 125 d (by decide) (by decide)) (by decide), rPos_pop]
    rfl
  · rw [e]
    refine ⟨fun e => absurd e (by decide), fun _ => ⟨fun e => absurd e (by decide), fun _ => ⟨fun e => absurd e (by decide), fun _ => ⟨fun e => absurd e (by decide), fun _ => ⟨fun e => absurd e (by decide), fun _ => ⟨fun e => absurd e (by decide), fun _ => ⟨fun e => absurd e (by decide), fun _ => ⟨fun e => absurd e (by decide), fun _ => ⟨fun e => absurd e (by decide), fun _ => ⟨fun _ => ?_, fun e => absurd rfl e⟩⟩⟩⟩⟩⟩⟩⟩⟩⟩
    obtain ⟨k, hkk⟩ : ∃ k, k0 = k + 1 := ⟨k0 - 1, by have := hcl (Or.inr (Or.inr e)); omega⟩
    refine c_closeBlock h (by rw [hk, hkk]) (by omega) (fun r1 => ?_)
    have pc : (rPop v t (rAt t + 16)).toNatClampNeg ≤ 3 := by
      unfold rPop
      rw [upd_same, hk, hkk, (by decide : ∀ k, k < 3 → nI (k + 1) - 1 = nI k) k (by omega), cl (by omega)]
      omega
    have e5 : (ct_st m w 9 (nI k)).1 w 5 = nI p := by rw [ct_st_eq, upd_ne _ _ (by decide), h.1.2.2.2.2.1]; exact hp
    rw [e5, hpg]
    refine c_behind (n := n) (by rw [ct_st_ne (by omega)]; exact hP.1) hn6 (p_len ht).2.2 hpn ?_
    rw [ct_st_ne (by omega), (hP.2 p hpn).2.2.2 (Or.inr e)]
    intro m33 h33
    subst h33
    have ef : fToken G v t ww = (0, upd (rPop v t) (rAt t + 1) (G 1029 (60 * t + p) + 1), ww) := by
      rw [plain 124 d e rfl (h63 124 d (by decide) (by decide)) (by decide)]
      unfold fPlain
      have : upd (rPop (rPos v t) t) (rAt t + 1) (G 1029 (60 * t + p) + 1) = upd (rPop v t) (rAt t + 1) (G 1029 (60 * t + p) + 1) := by
        rw [← rPos_pop]
        unfold rPos
        funext i
        simp only [upd]
        (repeat' split) <;> rfl
      rw [← this]
      rfl
    rw [ef] at hq
    exact hq _ ((Fr.st (by omega) (by omega)).tr (Fr.st (by omega) (by omega))) (Rk_pos r1 pc _)
