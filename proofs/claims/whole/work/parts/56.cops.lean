/-! the class: logs, values, validity -/
def WL (w : Nat) : Prop := ct_ln (w + 2) = 6 ∧ ct_ln (w + 4) = 6 ∧ ct_ln (w + 5) = 3 ∧ ∀ k, k < 3 → ct_ln (w + 6 + 3 * k + 2) = 6
theorem w_len {b : Nat} (h : ct_K 10 b) : ct_ln (b + 1) = 6 ∧ ct_ln (b + 2) = 6 ∧ ct_ln (b + 3) = 3 ∧ ct_ln (b + 4) = 4 ∧ ct_ln (b + 5) = 4 ∧ ct_ln (b + 6) = 4 := by
  have h1 := ct_all (fun a => !(ct_kd a == 10) || (ct_ln (a + 1) == 6 && ct_ln (a + 2) == 6 && ct_ln (a + 3) == 3 && ct_ln (a + 4) == 4 && ct_ln (a + 5) == 4 && ct_ln (a + 6) == 4)) (by decide +kernel) h.1
  simp only [h.2, beq_self_eq_true, Bool.not_true, Bool.false_or, Bool.and_eq_true, beq_iff_eq] at h1
  obtain ⟨⟨⟨⟨⟨a, b⟩, c⟩, d⟩, e⟩, f⟩ := h1
  exact ⟨a, b, c, d, e, f⟩
theorem w_WL {b t : Nat} (h : ct_K 10 b) (ht : t < 3) : WL (b + 7 + 15 * t) := by
  have h1 := ct_all (fun a => !(ct_kd a == 10) || ((List.range 3).all fun t => ct_ln (a + 7 + 15 * t + 2) == 6 && ct_ln (a + 7 + 15 * t + 4) == 6 && ct_ln (a + 7 + 15 * t + 5) == 3 && (List.range 3).all fun k => ct_ln (a + 7 + 15 * t + 6 + 3 * k + 2) == 6)) (by decide +kernel) h.1
  simp only [h.2, beq_self_eq_true, Bool.not_true, Bool.false_or, Bool.and_eq_true, beq_iff_eq, List.all_eq_true, List.mem_range] at h1
  obtain ⟨⟨⟨a, b⟩, c⟩, d⟩ := h1 t ht
  exact ⟨a, b, c, d⟩
theorem c_isCell {c : Nat} {Q : Int32 → ct_M → Prop} {m : ct_M} (hc : c < 6) (h : Q 1 m) : wp_X11_isCell (nI c) Q m := by
  unfold wp_X11_isCell
  simp (disch := omega) only [nI_ofNat, cmp_le]
  exact ⟨fun e => absurd e (nI_pos (by omega)), fun _ => ⟨fun e => absurd e (by omega), fun _ => h⟩⟩
theorem c_holds {a c : Nat} {Q : Int32 → ct_M → Prop} {m : ct_M} (h1 : bitSet (m.1 a 0) c → Q 1 m) (h0 : ¬ bitSet (m.1 a 0) c → Q 0 m) : wp_X0_holds a (nI c) Q m := ⟨h0, h1⟩
def cPut (m : ct_M) (a c : Nat) (x : Int32) : ct_M := ct_st (ct_st m a 0 (m.1 a 0 ||| ((1 : Int32) <<< (nI c &&& 31)))) (a + 1) c x
theorem c_put {a c : Nat} {x : Int32} {Q : ct_M → Prop} {m : ct_M} (hc : c < 6) (hl : ct_ln (a + 1) = 6) (h : Q (cPut m a c x)) : wp_X0_put a (nI c) x Q m := by
  unfold wp_X0_put
  refine c_isCell hc ⟨fun e => absurd e (by decide), fun _ => ?_⟩
  simp (disch := omega) only [vp_nI, cl, fa_eq, hl]
  exact ⟨by omega, h⟩
def cCopy (m : ct_M) (a b : Nat) : ct_M := pr (pr m a (upd (m.1 a) 0 (m.1 b 0))) (a + 1) (fun i => if i < 6 then m.1 (b + 1) i else m.1 (a + 1) i)
theorem c_copy {a b : Nat} {Q : ct_M → Prop} {m : ct_M} (ha : ct_ln (a + 1) = 6) (hb : ct_ln (b + 1) = 6) (h1 : a ≠ b) (h2 : a + 1 ≠ b) (h3 : a ≠ b + 1) (h : Q (cCopy m a b)) : wp_X0_copyFrom a b Q m := by
  have loop : ∀ (k j : Nat), j + k = 6 → wb_X0_copyFrom_10 Q (k + 1) a b (nI j) (pr (pr m a (upd (m.1 a) 0 (m.1 b 0))) (a + 1) (fun i => if i < j then m.1 (b + 1) i else m.1 (a + 1) i)) := by
    intro k
    induction k with
    | zero =>
      intro j hj
      have : j = 6 := by omega
      subst this
      unfold wb_X0_copyFrom_10
      exact ⟨fun _ => h, fun e => absurd (by decide) e⟩
    | succ k ih =>
      intro j hj
      have nx := ih (j + 1) (by omega)
      unfold wb_X0_copyFrom_10
      simp (disch := omega) only [nI_ofNat, cmp_le, nI_add, vp_nI, cl, fa_eq, ha, hb, pr_stpr, pr_at, pr_ne]
      refine ⟨fun e => absurd e (by omega), fun _ => ⟨by omega, by omega, ?_⟩⟩
      refine cast (congrArg (fun r => wb_X0_copyFrom_10 Q (k + 1) a b (nI (j + 1)) (pr (pr m a (upd (m.1 a) 0 (m.1 b 0))) (a + 1) r)) ?_) nx
      funext i
      simp only [upd]
      by_cases e : i = j
      · subst e; rw [if_pos (by omega), if_pos rfl]
      · rw [if_neg e]
        by_cases e2 : i < j
        · rw [if_pos (by omega), if_pos e2]
        · rw [if_neg (by omega), if_neg e2]
  unfold wp_X0_copyFrom
  simp only [fa_eq]
  refine ⟨7, ?_⟩
  have := loop 6 0 rfl
  refine cast (congrArg (fun r => wb_X0_copyFrom_10 Q 7 a b (nI 0) r) ?_) this
  have e : (fun i => if i < 0 then m.1 (b + 1) i else m.1 (a + 1) i) = m.1 (a + 1) := by funext i; rw [if_neg (by omega)]
  rw [e, pr_st]
  have := pr_id (pr m a (upd (m.1 a) 0 (m.1 b 0))) (a + 1)
  rw [pr_ne _ _ (by omega)] at this
  exact this
theorem c_value {b w t c : Nat} {v : Row} {Q : Int32 → ct_M → Prop} {m : ct_M} (hb : ct_ln (b + 1) = 6) (hw : WL w) (hc : c < 6) (hv : m.1 (b + 1) c = v c) (hr : RkW m w v t) (h : Q (rSees v t c) m) : wp_X10_valueFor b w (nI c) Q m := by
  unfold wp_X10_valueFor
  refine c_isCell hc ⟨fun _ => c_holds (fun hs => ?_) (fun hs => ?_), fun e => absurd e (by decide)⟩
  · rw [hr.1] at hs
    rw [rSees_in hs, ← hr.2 c hc hs] at h
    simp (disch := omega) only [vp_nI, cl, hw.2.1]
    exact ⟨fun e => absurd e (by decide), fun _ => ⟨by omega, h⟩⟩
  · rw [hr.1] at hs
    rw [rSees_out hs, ← hv] at h
    simp (disch := omega) only [vp_nI, cl, hb]
    exact ⟨fun _ => ⟨by omega, h⟩, fun e => absurd trivial e⟩
theorem c_current {b w t : Nat} {v : Row} {Q : Int32 → ct_M → Prop} {m : ct_M} (hb : ct_ln (b + 2) = 6) (hw : WL w) (hv : ∀ c, c < 6 → m.1 (b + 2) c = v (6 + c)) (hr : RkR m w v t) (h1 : rValid v t → Q 1 m) (h0 : ¬ rValid v t → Q 0 m) : wp_X10_readsAreCurrent b w Q m := by
  have loop : ∀ (k j : Nat), j + k = 6 → (∀ c, c < j → v (rAt t + 3 + c) = 0 ∨ v (rAt t + 3 + c) = v (6 + c) + 1) → wb_X10_readsAreCurrent_2 Q (k + 1) b w (nI j) m := by
    intro k
    induction k with
    | zero =>
      intro j hj hp
      have : j = 6 := by omega
      subst this
      unfold wb_X10_readsAreCurrent_2
      exact ⟨fun _ => h1 hp, fun e => absurd (by decide) e⟩
    | succ k ih =>
      intro j hj hp
      have next : (v (rAt t + 3 + j) = 0 ∨ v (rAt t + 3 + j) = v (6 + j) + 1) → wb_X10_readsAreCurrent_39 (wb_X10_readsAreCurrent_2 Q (k + 1)) Q b w (nI j) m := by
        intro hj2
        unfold wb_X10_readsAreCurrent_39
        intro x hx
        rw [hx, nI_ofNat 1, nI_add]
        refine ih (j + 1) (by omega) (fun c hc => ?_)
        by_cases e : c = j
        · subst e; exact hj2
        · exact hp c (by omega)
      unfold wb_X10_readsAreCurrent_2
      simp (disch := omega) only [nI_ofNat, cmp_le]
      refine ⟨fun e => absurd e (by omega), fun _ => c_holds (fun hs => ⟨fun e => absurd e (by decide), fun _ => ?_⟩) (fun hs => ⟨fun _ => next (Or.inl ?_), fun e => absurd rfl e⟩)⟩
      · have hz := (hr.2 j (by omega)).1.mp hs
        have hn := (hr.2 j (by omega)).2 hz
        simp (disch := omega) only [vp_nI, cl, hw.1, hb]
        refine ⟨by omega, by omega, fun e => next (Or.inr ?_), fun e => h0 fun hval => ?_⟩
        · rw [← hn, ← hv j (by omega), ← e]
        · rcases hval j (by omega) with z | z
          · exact hz z
          · rw [← hn, ← hv j (by omega)] at z
            exact e ((Int32.add_left_inj 1).mp z)
      · exact Classical.byContradiction fun z => hs ((hr.2 j (by omega)).1.mpr z)
  exact ⟨7, loop 6 0 rfl (fun c hc => absurd hc (by omega))⟩
