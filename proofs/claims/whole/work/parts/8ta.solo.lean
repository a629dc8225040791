/-! SERIAL SCHEDULES. A transaction alone: what it does depends on the values, the invariants and its own program -/
def lsI (t i : Nat) : Prop := i < 6 ∨ (12 ≤ i ∧ i < 25) ∨ (rAt t ≤ i ∧ i < rAt t + 3) ∨ (rAt t + 9 ≤ i ∧ i < rAt t + 47)
def lsA (t : Nat) (v v' : Row) : Prop := ∀ i, lsI t i → v' i = v i
def lsR (t : Nat) (v v' : Row) : Prop := ∀ c, c < 6 → (v (rAt t + 3 + c) = 0 ∧ v' (rAt t + 3 + c) = 0) ∨ (¬ v (rAt t + 3 + c) = 0 ∧ ¬ v' (rAt t + 3 + c) = 0 ∧ v (rAt t + 3 + c) = v (6 + c) + 1 ∧ v' (rAt t + 3 + c) = v' (6 + c) + 1)
def lsS (t : Nat) (v v' : Row) : Prop := lsA t v v' ∧ lsR t v v'
theorem lsI_v {t c : Nat} (h : c < 6) : lsI t c := Or.inl h
theorem lsI_l {t j : Nat} (h : j < 3) : lsI t (rAt t + j) := Or.inr (Or.inr (Or.inl ⟨by omega, by omega⟩))
theorem lsI_h {t j : Nat} (h : 9 ≤ j) (h2 : j < 47) : lsI t (rAt t + j) := Or.inr (Or.inr (Or.inr ⟨by omega, by omega⟩))
theorem lsA_upd {t j : Nat} {v v' : Row} {x : Int32} (h : lsA t v v') : lsA t (upd v j x) (upd v' j x) := fun i hi => by
  simp only [upd]
  split
  · rfl
  · exact h i hi
theorem lsA_bring {t k : Nat} {v v' : Row} (hk : k < 3) (h : lsA t v v') : lsA t (rBring v t (rB t k)) (rBring v' t (rB t k)) := fun i hi => by
  have hB : rB t k = rAt t + 17 + 10 * k := rfl
  unfold rBring
  by_cases e : rAt t + 9 ≤ i ∧ i < rAt t + 16
  · rw [if_pos e, if_pos e, show rB t k + 3 + (i - (rAt t + 9)) = rAt t + (20 + 10 * k + (i - (rAt t + 9))) by omega]
    exact h _ (lsI_h (by omega) (by omega))
  · rw [if_neg e, if_neg e]
    by_cases e2 : i = rAt t + 2
    · rw [if_pos e2, if_pos e2, show rB t k + 2 = rAt t + (19 + 10 * k) by omega]
      exact h _ (lsI_h (by omega) (by omega))
    · rw [if_neg e2, if_neg e2]; exact h i hi
theorem lsA_open {t k : Nat} {v v' : Row} {p : Int32} (hk : k < 3) (h : lsA t v v') : lsA t (rOpenAt v t k p) (rOpenAt v' t k p) := by
  have hB : rB t k = rAt t + 17 + 10 * k := rfl
  unfold rOpenAt
  rw [h _ (lsI_h (j := 16) (by omega) (by omega))]
  refine lsA_upd fun i hi => ?_
  show (if rB t k + 3 ≤ i ∧ i < rB t k + 10 then v' (rAt t + 9 + (i - (rB t k + 3))) else if i = rB t k + 2 then v' (rAt t + 2) else if i = rB t k + 1 then 0 else if i = rB t k then p else v' i) = (if rB t k + 3 ≤ i ∧ i < rB t k + 10 then v (rAt t + 9 + (i - (rB t k + 3))) else if i = rB t k + 2 then v (rAt t + 2) else if i = rB t k + 1 then 0 else if i = rB t k then p else v i)
  by_cases e : rB t k + 3 ≤ i ∧ i < rB t k + 10
  · rw [if_pos e, if_pos e, show rAt t + 9 + (i - (rB t k + 3)) = rAt t + (9 + (i - (rB t k + 3))) by omega]
    exact h _ (lsI_h (by omega) (by omega))
  · rw [if_neg e, if_neg e]
    by_cases e2 : i = rB t k + 2
    · rw [if_pos e2, if_pos e2]; exact h _ (lsI_l (by omega))
    · rw [if_neg e2, if_neg e2]
      by_cases e3 : i = rB t k + 1
      · rw [if_pos e3, if_pos e3]
      · rw [if_neg e3, if_neg e3]
        by_cases e4 : i = rB t k
        · rw [if_pos e4, if_pos e4]
        · rw [if_neg e4, if_neg e4]; exact h i hi
theorem ls_sees {t c : Nat} {v v' : Row} (hc : c < 6) (h : lsA t v v') : rSees v' t c = rSees v t c := by
  have e9 := h _ (lsI_h (t := t) (j := 9) (by omega) (by omega))
  have e10 := h _ (lsI_h (t := t) (j := 10 + c) (by omega) (by omega))
  rw [← Nat.add_assoc] at e10
  by_cases hb : bitSet (v (rAt t + 9)) c
  · rw [rSees_in hb, rSees_in (by rw [e9]; exact hb), e10]
  · rw [rSees_out hb, rSees_out (by rw [e9]; exact hb)]; exact h c (lsI_v hc)
/-- places that no token but a read touches -/
theorem lsR_keep {t : Nat} {v v' u u' : Row} (h : lsR t v v') (h1 : ∀ c, c < 6 → u (rAt t + 3 + c) = v (rAt t + 3 + c) ∧ u' (rAt t + 3 + c) = v' (rAt t + 3 + c)) (h2 : ∀ c, c < 6 → u (6 + c) = v (6 + c) ∧ u' (6 + c) = v' (6 + c)) : lsR t u u' := fun c hc => by
  rw [(h1 c hc).1, (h1 c hc).2, (h2 c hc).1, (h2 c hc).2]; exact h c hc
theorem lsR_valid {t : Nat} {v v' : Row} (h : lsR t v v') : rValid v t ∧ rValid v' t :=
  ⟨fun c hc => (h c hc).elim (fun z => Or.inl z.1) (fun z => Or.inr z.2.2.1), fun c hc => (h c hc).elim (fun z => Or.inl z.2) (fun z => Or.inr z.2.2.2)⟩
theorem rFind_congr {P P' : Nat → Prop} : ∀ {n : Nat}, (∀ k, k < n → (P k ↔ P' k)) → rFind P n = rFind P' n := by
  intro n
  induction n with
  | zero => intro _; rfl
  | succ n ih =>
    intro h
    rw [rFind, rFind, ih fun k hk => h k (by omega)]
    by_cases e : P n
    · rw [cif_t e, cif_t ((h n (by omega)).mp e)]
    · rw [cif_f e, cif_f fun z => e ((h n (by omega)).mpr z)]
/-- rows that a transaction alone may stand on -/
def SO (G : Prg) (t n : Nat) (dp : Nat → Nat) (v : Row) (p : Nat) : Prop := (∀ c, c < 6 → V (v c)) ∧ (∀ c, c < 6 → ∃ q : Nat, q < 2 ^ 29 ∧ v (6 + c) = nI q) ∧ (∃ n, rInvs v n) ∧ TWm G v t n dp p
theorem lsR_out {t : Nat} {v v' u u' : Row} (h : lsR t v v') (h1 : ∀ i, (i < 12 ∨ (rAt t + 3 ≤ i ∧ i < rAt t + 9)) → u i = v i ∧ u' i = v' i) : lsR t u u' :=
  lsR_keep h (fun c hc => h1 _ (by omega)) (fun c hc => h1 _ (by omega))
theorem ls_retryAt {t k : Nat} {v v' : Row} {x : Int32} (hk : k < 3) (h : lsS t v v') : lsS t (rRetryAt v t k x) (rRetryAt v' t k x) := by
  have hr : rAt t = 25 + 49 * t := rfl
  have hB : rB t k = rAt t + 17 + 10 * k := rfl
  refine ⟨lsA_upd (lsA_upd (lsA_upd (lsA_bring hk h.1))), lsR_out h.2 fun i hi => ?_⟩
  unfold rRetryAt rBring
  rw [upd_ne _ _ (by omega), upd_ne _ _ (by omega), upd_ne _ _ (by omega), upd_ne _ _ (by omega), upd_ne _ _ (by omega), upd_ne _ _ (by omega), if_neg (by omega), if_neg (by omega), if_neg (by omega), if_neg (by omega)]
  exact ⟨rfl, rfl⟩
theorem ls_abandAt {t k : Nat} {v v' : Row} {x : Int32} (hk : k < 3) (h : lsS t v v') : lsS t (rAbandAt v t k x) (rAbandAt v' t k x) := by
  have hr : rAt t = 25 + 49 * t := rfl
  have hB : rB t k = rAt t + 17 + 10 * k := rfl
  refine ⟨lsA_upd (lsA_upd (lsA_bring hk h.1)), lsR_out h.2 fun i hi => ?_⟩
  unfold rAbandAt rBring
  rw [upd_ne _ _ (by omega), upd_ne _ _ (by omega), upd_ne _ _ (by omega), upd_ne _ _ (by omega), if_neg (by omega), if_neg (by omega), if_neg (by omega), if_neg (by omega)]
  exact ⟨rfl, rfl⟩
theorem ls_upd {t j : Nat} {v v' : Row} {x : Int32} (hj : 12 ≤ j) (hj2 : ¬ (rAt t + 3 ≤ j ∧ j < rAt t + 9)) (h : lsS t v v') : lsS t (upd v j x) (upd v' j x) :=
  ⟨lsA_upd h.1, lsR_out h.2 fun i hi => ⟨upd_ne _ _ (by omega), upd_ne _ _ (by omega)⟩⟩
theorem ls_read {t c : Nat} {v v' : Row} (hc : c < 6) (h : lsS t v v') (hv : ∃ q : Nat, q < 2 ^ 29 ∧ v (6 + c) = nI q) (hv' : ∃ q : Nat, q < 2 ^ 29 ∧ v' (6 + c) = nI q) : lsS t (rRead v t c) (rRead v' t c) := by
  have hr : rAt t = 25 + 49 * t := rfl
  have e9 := h.1 _ (lsI_h (t := t) (j := 9) (by omega) (by omega))
  have es := ls_sees hc h.1
  have h1 : lsS t (upd v (rAt t + 2) (rSees v t c)) (upd v' (rAt t + 2) (rSees v' t c)) := by rw [es]; exact ls_upd (by omega) (by omega) h
  have hz := h.2 c hc
  have nz : ∀ u : Row, (∃ q : Nat, q < 2 ^ 29 ∧ u (6 + c) = nI q) → ¬ u (6 + c) + 1 = 0 := fun u ⟨q, q1, q2⟩ z => by
    rw [q2, nI_ofNat 1, nI_add] at z
    have := (cmp_eq (by omega) (by decide : (0 : Nat) < 2 ^ 31)).mp z
    omega
  have ez : v' (rAt t + 3 + c) = 0 ↔ v (rAt t + 3 + c) = 0 := by
    rcases hz with ⟨a, b⟩ | ⟨a, b, -⟩
    · exact ⟨fun _ => a, fun _ => b⟩
    · exact ⟨fun z => absurd z b, fun z => absurd z a⟩
  unfold rRead
  by_cases c1 : bitSet (v (rAt t + 9)) c ∨ ¬ v (rAt t + 3 + c) = 0
  · rw [if_pos c1, if_pos (by rw [e9, ez]; exact c1)]; exact h1
  · rw [if_neg c1, if_neg (by rw [e9, ez]; exact c1)]
    refine ⟨fun i hi => ?_, fun d hd => ?_⟩
    · have : i ≠ rAt t + 3 + c := by unfold lsI at hi; omega
      rw [upd_ne _ _ this, upd_ne _ _ this]; exact h1.1 i hi
    · by_cases e : d = c
      · subst e
        rw [upd_same, upd_same, upd_ne _ _ (by omega), upd_ne _ _ (by omega), upd_ne _ _ (by omega), upd_ne _ _ (by omega)]
        exact Or.inr ⟨nz v hv, nz v' hv', rfl, rfl⟩
      · have x1 : rAt t + 3 + d ≠ rAt t + 3 + c := by omega
        have x2 : 6 + d ≠ rAt t + 3 + c := by omega
        rw [upd_ne (upd v (rAt t + 2) (rSees v t c)) _ x1, upd_ne (upd v' (rAt t + 2) (rSees v' t c)) _ x1, upd_ne (upd v (rAt t + 2) (rSees v t c)) _ x2, upd_ne (upd v' (rAt t + 2) (rSees v' t c)) _ x2]
        exact h1.2 d hd
theorem ls_openAt {t k : Nat} {v v' : Row} {p : Int32} (hk : k < 3) (h : lsS t v v') : lsS t (rOpenAt v t k p) (rOpenAt v' t k p) := by
  have hr : rAt t = 25 + 49 * t := rfl
  have hB : rB t k = rAt t + 17 + 10 * k := rfl
  refine ⟨lsA_open hk h.1, lsR_out h.2 fun i hi => ?_⟩
  unfold rOpenAt
  rw [upd_ne _ _ (by omega), upd_ne _ _ (by omega)]
  rw [if_neg (by omega), if_neg (by omega), if_neg (by omega), if_neg (by omega), if_neg (by omega), if_neg (by omega), if_neg (by omega), if_neg (by omega)]
  exact ⟨rfl, rfl⟩
theorem SO_at {G : Prg} {t n p : Nat} {dp : Nat → Nat} {v : Row} (hs : PS G t n dp) (h : SO G t n dp v p) (hp : p < n) : (v (rAt t + 1)).toNatClampNeg = p ∧ (v (rAt t + 16)).toNatClampNeg = dp p ∧ dp p ≤ 3 ∧ ((G 1026 (60 * t + p) = 40 ∨ G 1026 (60 * t + p) = 123) → dp p < 3) := by
  have n6 := hs.1
  have hd3 := hs.2.2.2.2.1 p (by omega)
  have hq := h.2.2.2.1
  exact ⟨by rw [hq.1, cl (by omega)], by rw [hq.2.2.1, cl (by omega)], hd3, fun z => (TP_open hs hq hp z).1⟩
theorem ls_token {G : Prg} {t n p : Nat} {dp : Nat → Nat} {v v' : Row} {w w' : Int32} (hs : PS G t n dp) (h : SO G t n dp v p) (h' : SO G t n dp v' p) (hl : lsS t v v') (hp : p < n) :
    (∃ u u', fToken G v t w = (0, u, w) ∧ fToken G v' t w' = (0, u', w') ∧ lsS t u u') ∨ (fToken G v t w = (3, upd v (rAt t) 1, w) ∧ fToken G v' t w' = (3, upd v' (rAt t) 1, w')) ∨ (fToken G v t w = (4, rStop v t 3, w) ∧ fToken G v' t w' = (4, rStop v' t 3, w')) := by
  have hr : rAt t = 25 + 49 * t := rfl
  obtain ⟨a1, a2, a3, a4⟩ := SO_at hs h hp
  obtain ⟨b1, b2, -, -⟩ := SO_at hs h' hp
  have e2 : v' (rAt t + 2) = v (rAt t + 2) := hl.1 _ (lsI_l (by omega))
  have e16 : v' (rAt t + 16) = v (rAt t + 16) := hl.1 _ (lsI_h (by omega) (by omega))
  have e1 : v' (rAt t + 1) = v (rAt t + 1) := hl.1 _ (lsI_l (by omega))
  have e9 : v' (rAt t + 9) = v (rAt t + 9) := hl.1 _ (lsI_h (by omega) (by omega))
  have eT : ∀ k, k < 3 → rTok v' t k = rTok v t k ∧ v' (rB t k + 1) = v (rB t k + 1) := by
    intro k hk
    have hB : rB t k = rAt t + (17 + 10 * k) := by unfold rB; omega
    refine ⟨?_, ?_⟩
    · unfold rTok; rw [hB, hl.1 _ (lsI_h (by omega) (by omega))]
    · rw [hB, Nat.add_assoc, hl.1 _ (lsI_h (by omega) (by omega))]
  unfold fToken
  rw [a1, b1, e2]
  by_cases c1 : G 1026 (60 * t + p) = 33 ∨ (G 1026 (60 * t + p) = 63 ∧ ¬ G 1027 (60 * t + p) ≤ v (rAt t + 2))
  · rw [cif_t c1, cif_t c1]
    unfold fRetry
    rw [a2, b2]
    have ec : rFind (canR G v' t) (dp p) = rFind (canR G v t) (dp p) := rFind_congr fun k hk => by
      unfold canR; rw [(eT k (by omega)).1, (eT k (by omega)).2]
    rw [ec]
    cases hf : rFind (canR G v t) (dp p) with
    | none =>
      obtain ⟨y1, y2⟩ := lsR_valid hl.2
      simp only [cif_t y1, cif_t y2]
      exact Or.inr (Or.inl ⟨trivial, trivial⟩)
    | some k =>
      obtain ⟨hk, -, -⟩ := rFind_spec hf
      refine Or.inl ⟨_, _, rfl, rfl, ?_⟩
      rw [(eT k (by omega)).1]
      exact ls_retryAt (by omega) hl
  · rw [cif_f c1, cif_f c1]
    by_cases c2 : G 1026 (60 * t + p) = 120
    · rw [cif_t c2, cif_t c2]
      unfold fAband
      rw [a2, b2]
      have ec : rFind (canX G v' t) (dp p) = rFind (canX G v t) (dp p) := rFind_congr fun k hk => by
        unfold canX; rw [(eT k (by omega)).1]
      rw [ec]
      cases hf : rFind (canX G v t) (dp p) with
      | none => exact Or.inr (Or.inr ⟨rfl, rfl⟩)
      | some k =>
        obtain ⟨hk, -, -⟩ := rFind_spec hf
        refine Or.inl ⟨_, _, rfl, rfl, ?_⟩
        rw [(eT k (by omega)).1]
        exact ls_abandAt (by omega) hl
    · rw [cif_f c2, cif_f c2]
      refine Or.inl ⟨_, _, rfl, rfl, ?_⟩
      have lp : lsS t (rPos v t) (rPos v' t) := by
        unfold rPos
        rw [e1]
        exact ls_upd (by omega) (by omega) hl
      have n1 : ∀ (u : Row) (j : Nat), j ≠ rAt t + 1 → rPos u t j = u j := fun u j hj => upd_ne _ _ hj
      have hlet := hs.2.2.1 p hp
      unfold fPlain
      by_cases z1 : G 1026 (60 * t + p) = 114
      · rw [if_pos z1, if_pos z1]
        obtain ⟨c, hc, ec⟩ : ∃ c : Nat, c < 6 ∧ G 1027 (60 * t + p) = nI c := by
          rcases hlet with y | y | y | y | y | y | y | y | y | y | y | y <;> first | exact y.2 | (exfalso; rw [z1] at y; exact absurd y (by decide)) | (exfalso; rw [z1] at y; exact absurd y.1 (by decide))
        rw [ec, cl (by omega)]
        exact ls_read hc lp (by rw [n1 _ _ (by omega)]; exact h.2.1 c hc) (by rw [n1 _ _ (by omega)]; exact h'.2.1 c hc)
      · rw [if_neg z1, if_neg z1]
        by_cases z2 : G 1026 (60 * t + p) = 119
        · rw [if_pos z2, if_pos z2]
          obtain ⟨c, hc, ec⟩ : ∃ c : Nat, c < 6 ∧ G 1027 (60 * t + p) = nI c := by
            rcases hlet with y | y | y | y | y | y | y | y | y | y | y | y <;> first | exact y.2 | (exfalso; rw [z2] at y; exact absurd y (by decide)) | (exfalso; rw [z2] at y; exact absurd y.1 (by decide))
          rw [ec, cl (by omega)]
          unfold rWr
          rw [n1 v _ (by omega), n1 v' _ (by omega), n1 v _ (by omega), n1 v' _ (by omega), e9, e2]
          exact ls_upd (by omega) (by omega) (ls_upd (by omega) (by omega) lp)
        · rw [if_neg z2, if_neg z2]
          by_cases z3 : G 1026 (60 * t + p) = 43
          · rw [if_pos z3, if_pos z3]; rw [e2]; exact ls_upd (by omega) (by omega) lp
          · rw [if_neg z3, if_neg z3]
            by_cases z4 : G 1026 (60 * t + p) = 45
            · rw [if_pos z4, if_pos z4]; rw [e2]; exact ls_upd (by omega) (by omega) lp
            · rw [if_neg z4, if_neg z4]
              have pop : lsS t (rPop (rPos v t) t) (rPop (rPos v' t) t) := by
                unfold rPop
                rw [n1 v _ (by omega), n1 v' _ (by omega), e16]
                exact ls_upd (by omega) (by omega) lp
              by_cases z5 : G 1026 (60 * t + p) = 40 ∨ G 1026 (60 * t + p) = 123
              · rw [if_pos z5, if_pos z5, a2, b2]; exact ls_openAt (a4 z5) lp
              · rw [if_neg z5, if_neg z5]
                by_cases z6 : G 1026 (60 * t + p) = 41 ∨ G 1026 (60 * t + p) = 125
                · rw [if_pos z6, if_pos z6]; exact pop
                · rw [if_neg z6, if_neg z6]
                  by_cases z7 : G 1026 (60 * t + p) = 124
                  · rw [if_pos z7, if_pos z7]; exact ls_upd (by omega) (by omega) pop
                  · rw [if_neg z7, if_neg z7]; exact lp
