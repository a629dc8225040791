/-! the class: executing a token -/
def Lets (G : Prg) (t n : Nat) : Prop := ∀ q, q < n → (G 1026 (60 * t + q) = 33 ∨ G 1026 (60 * t + q) = 63 ∨ G 1026 (60 * t + q) = 120 ∨ (G 1026 (60 * t + q) = 114 ∧ ∃ c : Nat, c < 6 ∧ G 1027 (60 * t + q) = nI c) ∨ (G 1026 (60 * t + q) = 119 ∧ ∃ c : Nat, c < 6 ∧ G 1027 (60 * t + q) = nI c) ∨ G 1026 (60 * t + q) = 43 ∨ G 1026 (60 * t + q) = 45 ∨ G 1026 (60 * t + q) = 40 ∨ G 1026 (60 * t + q) = 123 ∨ G 1026 (60 * t + q) = 41 ∨ G 1026 (60 * t + q) = 125 ∨ G 1026 (60 * t + q) = 124)
/-- what a token of thread t at place p needs of the row -/
def TokOK (G : Prg) (v : Row) (t n p k0 : Nat) : Prop := v (rAt t + 1) = nI p ∧ p < n ∧ n < 60 ∧ v (rAt t + 16) = nI k0 ∧ k0 ≤ 3 ∧ (∀ k, k < k0 → G 1026 (60 * t + rTok v t k) = 123 → v (rB t k + 1) = 0) ∧ ((G 1026 (60 * t + p) = 40 ∨ G 1026 (60 * t + p) = 123) → k0 < 3) ∧ ((G 1026 (60 * t + p) = 41 ∨ G 1026 (60 * t + p) = 125 ∨ G 1026 (60 * t + p) = 124) → 0 < k0) ∧ (∃ x : Nat, x < 64 ∧ v (rAt t + 9) = nI x) ∧ (∀ c, c < 6 → ¬ v (6 + c) + 1 = 0)
theorem rSees_pos {v : Row} {t c : Nat} (hc : c < 6) (x : Int32) (j : Nat) (hj : j = 1 ∨ j = 2) : rSees (upd v (rAt t + j) x) t c = rSees v t c := by
  have hr : rAt t = 25 + 49 * t := rfl
  by_cases hb : bitSet (v (rAt t + 9)) c
  · rw [rSees_in hb, rSees_in (by rw [upd_ne _ _ (by omega)]; exact hb), upd_ne _ _ (by omega)]
  · rw [rSees_out hb, rSees_out (by rw [upd_ne _ _ (by omega)]; exact hb), upd_ne _ _ (by omega)]
theorem rPos_read {v : Row} {t c : Nat} (hc : c < 6) : rPos (rRead v t c) t = rRead (rPos v t) t c := by
  have hr : rAt t = 25 + 49 * t := rfl
  have es : rSees (rPos v t) t c = rSees v t c := rSees_pos hc _ 1 (Or.inl rfl)
  have e9 : rPos v t (rAt t + 9) = v (rAt t + 9) := upd_ne _ _ (by omega)
  have e3 : rPos v t (rAt t + 3 + c) = v (rAt t + 3 + c) := upd_ne _ _ (by omega)
  have e6 : rPos v t (6 + c) = v (6 + c) := upd_ne _ _ (by omega)
  by_cases h : bitSet (v (rAt t + 9)) c ∨ ¬ v (rAt t + 3 + c) = 0
  · have h' : bitSet (rPos v t (rAt t + 9)) c ∨ ¬ rPos v t (rAt t + 3 + c) = 0 := by rw [e9, e3]; exact h
    unfold rRead
    rw [if_pos h, if_pos h', es]
    unfold rPos
    rw [upd_ne _ _ (by omega), upd_comm _ _ _ (by omega)]
  · have h' : ¬ (bitSet (rPos v t (rAt t + 9)) c ∨ ¬ rPos v t (rAt t + 3 + c) = 0) := by rw [e9, e3]; exact h
    unfold rRead
    rw [if_neg h, if_neg h', es, e6]
    unfold rPos
    rw [upd_ne _ _ (by omega), upd_ne _ _ (by omega), upd_comm _ _ _ (by omega : rAt t + 3 + c ≠ rAt t + 1), upd_comm v _ _ (by omega : rAt t + 2 ≠ rAt t + 1)]
theorem rPos_sum {v : Row} {t : Nat} (x : Int32) : rPos (upd v (rAt t + 2) x) t = upd (rPos v t) (rAt t + 2) x := by
  unfold rPos
  rw [upd_ne _ _ (by omega), upd_comm _ _ _ (by omega)]
theorem rPos_wr {v : Row} {t c : Nat} (hc : c < 6) : rPos (rWr v t c) t = rWr (rPos v t) t c := by
  unfold rWr rPos
  rw [upd_ne _ _ (by omega), upd_ne _ _ (by omega), upd_ne _ _ (by omega), upd_ne _ _ (by omega), upd_comm _ _ _ (by omega : rAt t + 10 + c ≠ rAt t + 1), upd_comm v _ _ (by omega : rAt t + 9 ≠ rAt t + 1)]
theorem rPos_pop {v : Row} {t : Nat} : rPos (rPop v t) t = rPop (rPos v t) t := by
  unfold rPop rPos
  rw [upd_ne _ _ (by omega), upd_ne _ _ (by omega), upd_comm _ _ _ (by omega)]
theorem rPos_open {v : Row} {t k : Nat} {p : Int32} : rPos (rOpenAt v t k p) t = rOpenAt (rPos v t) t k p := by
  have hB : rB t k = rAt t + 17 + 10 * k := rfl
  have e1 : rOpenAt v t k p (rAt t + 1) = v (rAt t + 1) := by
    unfold rOpenAt
    rw [upd_ne _ _ (by omega), if_neg (by omega), if_neg (by omega), if_neg (by omega), if_neg (by omega)]
  have e16 : rPos v t (rAt t + 16) = v (rAt t + 16) := upd_ne _ _ (by omega)
  have e2 : rPos v t (rAt t + 2) = v (rAt t + 2) := upd_ne _ _ (by omega)
  have e9 : ∀ i, rB t k + 3 ≤ i → rPos v t (rAt t + 9 + (i - (rB t k + 3))) = v (rAt t + 9 + (i - (rB t k + 3))) := fun i hi => upd_ne _ _ (by omega)
  funext i
  by_cases hi : i = rAt t + 1
  · subst hi
    have : rPos (rOpenAt v t k p) t (rAt t + 1) = rOpenAt v t k p (rAt t + 1) + 1 := upd_same _ _ _
    rw [this, e1]
    unfold rOpenAt
    rw [upd_ne _ _ (by omega), if_neg (by omega), if_neg (by omega), if_neg (by omega), if_neg (by omega)]
    exact (upd_same _ _ _).symm
  · have e0 : rPos v t i = v i := upd_ne _ _ hi
    have : rPos (rOpenAt v t k p) t i = rOpenAt v t k p i := upd_ne _ _ hi
    rw [this]
    unfold rOpenAt
    rw [e16, e2]
    simp only [upd, e0]
    by_cases h3 : rB t k + 3 ≤ i
    · rw [e9 i h3]
    · have hn : ¬ (rB t k + 3 ≤ i ∧ i < rB t k + 10) := fun z => h3 z.1
      simp only [if_neg hn]
theorem c_207 {G : Prg} {w t : Nat} {u : Row} {Q : Int32 → ct_M → Prop} {m : ct_M} (h : Rk G m w u t) (hk3 : (u (rAt t + 16)).toNatClampNeg ≤ 3) (hq : ∀ m', Fr m m' w (w + 15) → Rk G m' w (rPos u t) t → Q 0 m') : wb_X10_execute_207 Q w m := by
  unfold wb_X10_execute_207
  intro m1 h1
  subst h1
  refine hq _ (Fr.st (by omega) (by omega)) ?_
  have := Rk_pos h hk3 (m.1 w 5 + 1)
  unfold rPos
  rw [← h.1.2.2.2.2.1]
  exact this
theorem c_readCell {G : Prg} {b w t c : Nat} {v : Row} {Q : ct_M → Prop} {m : ct_M} (hb : ct_K 10 b) (hbw : b + 7 ≤ w) (hw : WL w) (h : Rk G m w v t) (hk3 : (v (rAt t + 16)).toNatClampNeg ≤ 3) (hv : RWv m b v) (hc : c < 6) (hver : ¬ v (6 + c) + 1 = 0)
    (hq : ∀ m', Fr m m' w (w + 15) → Rk G m' w (rRead v t c) t → Q m') : wp_X10_read b w (nI c) Q m := by
  have hr : rAt t = 25 + 49 * t := rfl
  obtain ⟨l1, l2, l3, l4, l5, l6⟩ := w_len hb
  unfold wp_X10_read
  refine c_isCell hc ⟨fun _ => ?_, fun e => absurd e (by decide)⟩
  refine c_value l1 hw hc (hv.1 c hc) h.2.2.1 ?_
  intro m6 h6
  subst h6
  have r1 := Rk_sum h hk3 (rSees v t c)
  have f1 : Fr m (ct_st m w 4 (rSees v t c)) w (w + 15) := Fr.st (by omega) (by omega)
  have eb : upd v (rAt t + 2) (rSees v t c) (rAt t + 9) = v (rAt t + 9) := upd_ne _ _ (by omega)
  have e3 : upd v (rAt t + 2) (rSees v t c) (rAt t + 3 + c) = v (rAt t + 3 + c) := upd_ne _ _ (by omega)
  refine c_holds (fun hs => ⟨fun _ => ?_, fun e => absurd e (by decide)⟩) (fun hs => ⟨fun e => absurd rfl e, fun _ => ?_⟩)
  · rw [r1.2.2.1.1, eb] at hs
    have : rRead v t c = upd v (rAt t + 2) (rSees v t c) := if_pos (Or.inl hs)
    rw [← this] at r1
    exact hq _ f1 r1
  · rw [r1.2.2.1.1, eb] at hs
    refine c_holds (fun hs2 => ⟨fun _ => ?_, fun e => absurd e (by decide)⟩) (fun hs2 => ⟨fun e => absurd rfl e, fun _ => ?_⟩)
    · have hz := (r1.2.1.2 c hc).1.mp hs2
      rw [e3] at hz
      have : rRead v t c = upd v (rAt t + 2) (rSees v t c) := if_pos (Or.inr hz)
      rw [← this] at r1
      exact hq _ f1 r1
    · have hz : v (rAt t + 3 + c) = 0 := Classical.byContradiction fun z => hs2 ((r1.2.1.2 c hc).1.mpr (by rw [e3]; exact z))
      simp (disch := omega) only [vp_nI, cl, l2]
      refine ⟨by omega, ?_⟩
      refine c_put hc hw.1 ?_
      rw [ct_st_ne (by omega : b + 2 ≠ w), hv.2 c hc]
      have r2 := Rk_read r1 (by rw [upd_ne _ _ (by omega)]; exact hk3) hc (v (6 + c)) hver
      have : rRead v t c = upd (upd v (rAt t + 2) (rSees v t c)) (rAt t + 3 + c) (v (6 + c) + 1) := if_neg (by
        rintro (z | z)
        · exact hs z
        · exact z hz)
      rw [← this] at r2
      exact hq _ (f1.tr (Fr.put (by omega) (by omega))) r2
theorem rRead_cnt {v : Row} {t c : Nat} (hc : c < 6) : rRead v t c (rAt t + 16) = v (rAt t + 16) := by
  unfold rRead
  by_cases h : bitSet (v (rAt t + 9)) c ∨ ¬ v (rAt t + 3 + c) = 0
  · rw [if_pos h, upd_ne _ _ (by omega)]
  · rw [if_neg h, upd_ne _ _ (by omega), upd_ne _ _ (by omega)]
