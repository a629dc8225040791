/-! the reference's parser: one token -/
def MRr (m : ct_M) (t n d : Nat) (q : Nat → Nat) (W : Nat → Row) : Prop := m.1 1023 19 = nI t ∧ m.1 1023 28 = nI d ∧ m.1 1039 t = nI n ∧ (∀ i, i < d → m.1 1044 i = nI (q i)) ∧ ∀ k, k < 4 → ∀ j, j < n → m.1 (1040 + k) (60 * t + j) = W k j
def MR (m : ct_M) (t : Nat) (S : PQ) : Prop := m.1 1023 3 = nI S.1 ∧ MRr m t S.2.1 S.2.2.1 S.2.2.2.1 S.2.2.2.2.2
/-- what reading a program leaves -/
def FrP (t : Nat) (m m' : ct_M) : Prop := m'.2 = m.2 ∧ (∀ c, (c < 1023 ∨ (1023 < c ∧ c < 1039) ∨ 1045 ≤ c) → m'.1 c = m.1 c) ∧ (∀ j, j ≠ 3 → j ≠ 28 → m'.1 1023 j = m.1 1023 j) ∧ (∀ j, j ≠ t → m'.1 1039 j = m.1 1039 j) ∧ ∀ k, k < 4 → ∀ i, (i < 60 * t ∨ 60 * t + 60 ≤ i) → m'.1 (1040 + k) i = m.1 (1040 + k) i
theorem FrP.rf {t : Nat} {m : ct_M} : FrP t m m := ⟨rfl, fun _ _ => rfl, fun _ _ _ => rfl, fun _ _ => rfl, fun _ _ _ _ => rfl⟩
theorem FrP.tr {t : Nat} {m m' m'' : ct_M} (h : FrP t m m') (g : FrP t m' m'') : FrP t m m'' :=
  ⟨g.1.trans h.1, fun c hc => (g.2.1 c hc).trans (h.2.1 c hc), fun j a b => (g.2.2.1 j a b).trans (h.2.2.1 j a b), fun j a => (g.2.2.2.1 j a).trans (h.2.2.2.1 j a), fun k hk i hi => (g.2.2.2.2 k hk i hi).trans (h.2.2.2.2 k hk i hi)⟩
theorem FrP.pos {t : Nat} {m : ct_M} {x : Int32} : FrP t m (ct_st m 1023 3 x) :=
  ⟨rfl, fun c hc => ct_st_ne (by omega), fun j a _ => by rw [ct_st_eq, upd_ne _ _ a], fun j _ => by rw [ct_st_ne (by decide)], fun k _ i _ => by rw [ct_st_ne (by omega)]⟩
theorem FrP.top {t : Nat} {m : ct_M} {x : Int32} : FrP t m (ct_st m 1023 28 x) :=
  ⟨rfl, fun c hc => ct_st_ne (by omega), fun j _ a => by rw [ct_st_eq, upd_ne _ _ a], fun j _ => by rw [ct_st_ne (by decide)], fun k _ i _ => by rw [ct_st_ne (by omega)]⟩
theorem FrP.stk {t : Nat} {m : ct_M} {j : Nat} {x : Int32} : FrP t m (ct_st m 1044 j x) :=
  ⟨rfl, fun c hc => ct_st_ne (by omega), fun j _ a => by rw [ct_st_ne (by decide)], fun j _ => by rw [ct_st_ne (by decide)], fun k hk i _ => by rw [ct_st_ne (by omega)]⟩
theorem FrP.row {t : Nat} {m : ct_M} {k j : Nat} {x : Int32} (hk : k < 4) (hj : j < 60) : FrP t m (ct_st m (1040 + k) (60 * t + j) x) :=
  ⟨rfl, fun c hc => ct_st_ne (by omega), fun j _ a => by rw [ct_st_ne (by omega)], fun j _ => by rw [ct_st_ne (by omega)], fun k' hk' i hi => by
    by_cases e : k' = k
    · subst e; rw [ct_st_eq, upd_ne _ _ (by omega)]
    · rw [ct_st_ne (by omega)]⟩
theorem FrP.cnt {t : Nat} {m : ct_M} {x : Int32} : FrP t m (ct_st m 1039 t x) :=
  ⟨rfl, fun c hc => ct_st_ne (by omega), fun j _ a => by rw [ct_st_ne (by decide)], fun j a => by rw [ct_st_eq, upd_ne _ _ a], fun k _ i _ => by rw [ct_st_ne (by omega)]⟩
theorem MRr_put {m : ct_M} {t n d : Nat} {q : Nat → Nat} {W : Nat → Row} {c e : Int32} (h : MRr m t n d q W) (hn : n < 60) : MRr (rPutTok m t n c e) t (n + 1) d q (pPut W n c e) ∧ FrP t m (rPutTok m t n c e) := by
  obtain ⟨h1, h2, h3, h4, h5⟩ := h
  unfold rPutTok
  refine ⟨⟨?_, ?_, ?_, fun i hi => ?_, fun k hk j hj => ?_⟩, ?_⟩
  · rw [ct_st_ne (by decide), ct_st_ne (by decide), ct_st_ne (by decide), ct_st_ne (by decide), ct_st_ne (by decide)]; exact h1
  · rw [ct_st_ne (by decide), ct_st_ne (by decide), ct_st_ne (by decide), ct_st_ne (by decide), ct_st_ne (by decide)]; exact h2
  · rw [ct_st_eq, upd_same]
  · rw [ct_st_ne (by decide), ct_st_ne (by decide), ct_st_ne (by decide), ct_st_ne (by decide), ct_st_ne (by decide)]; exact h4 i hi
  · have e0 : ∀ (k : Nat) (u : Row) (y : Int32), (∀ j, j < n → u (60 * t + j) = W k j) → upd u (60 * t + n) y (60 * t + j) = upd (W k) n y j := by
      intro k u y hu
      simp only [upd]
      by_cases ej : j = n
      · subst ej; rw [if_pos rfl, if_pos rfl]
      · rw [if_neg (by omega), if_neg ej]; exact hu j (by omega)
    have : k = 0 ∨ k = 1 ∨ k = 2 ∨ k = 3 := by omega
    rcases this with z | z | z | z <;> subst z
    · rw [ct_st_ne (by decide), ct_st_ne (by decide), ct_st_ne (by decide), ct_st_ne (by decide), show 1040 + 0 = 1040 from rfl, ct_st_eq]; exact e0 0 _ _ (h5 0 (by omega))
    · rw [ct_st_ne (by decide), ct_st_ne (by decide), ct_st_ne (by decide), show 1040 + 1 = 1041 from rfl, ct_st_eq, ct_st_ne (by decide)]; exact e0 1 _ _ (h5 1 (by omega))
    · rw [ct_st_ne (by decide), ct_st_ne (by decide), show 1040 + 2 = 1042 from rfl, ct_st_eq, ct_st_ne (by decide), ct_st_ne (by decide)]; exact e0 2 _ _ (h5 2 (by omega))
    · rw [ct_st_ne (by decide), show 1040 + 3 = 1043 from rfl, ct_st_eq, ct_st_ne (by decide), ct_st_ne (by decide), ct_st_ne (by decide)]; exact e0 3 _ _ (h5 3 (by omega))
  · exact ((((FrP.row (k := 0) (by omega) hn).tr (FrP.row (k := 1) (by omega) hn)).tr (FrP.row (k := 2) (by omega) hn)).tr (FrP.row (k := 3) (by omega) hn)).tr FrP.cnt
theorem MRr_pos {m : ct_M} {t n d : Nat} {q : Nat → Nat} {W : Nat → Row} {x : Int32} (h : MRr m t n d q W) : MRr (ct_st m 1023 3 x) t n d q W := by
  obtain ⟨h1, h2, h3, h4, h5⟩ := h
  exact ⟨by rw [ct_st_eq, upd_ne _ _ (by decide)]; exact h1, by rw [ct_st_eq, upd_ne _ _ (by decide)]; exact h2, by rw [ct_st_ne (by decide)]; exact h3, fun i hi => by rw [ct_st_ne (by decide)]; exact h4 i hi, fun k hk j hj => by rw [ct_st_ne (by omega)]; exact h5 k hk j hj⟩
theorem MRr_row {m : ct_M} {t n d k j : Nat} {q : Nat → Nat} {W : Nat → Row} {x : Int32} (h : MRr m t n d q W) (hk : k < 4) : MRr (ct_st m (1040 + k) (60 * t + j) x) t n d q (wSet W k j x) := by
  obtain ⟨h1, h2, h3, h4, h5⟩ := h
  refine ⟨by rw [ct_st_ne (by omega)]; exact h1, by rw [ct_st_ne (by omega)]; exact h2, by rw [ct_st_ne (by omega)]; exact h3, fun i hi => by rw [ct_st_ne (by omega)]; exact h4 i hi, fun k' hk' i hi => ?_⟩
  by_cases e : k' = k
  · subst e
    rw [ct_st_eq]
    unfold wSet
    rw [if_pos rfl]
    simp only [upd]
    by_cases ej : i = j
    · subst ej; rw [if_pos rfl, if_pos rfl]
    · rw [if_neg (by omega), if_neg ej]; exact h5 _ hk i hi
  · rw [ct_st_ne (by omega), wSet_k e]; exact h5 _ hk' i hi
theorem put_pos {m : ct_M} {t n : Nat} {c e : Int32} : (rPutTok m t n c e).1 1023 3 = m.1 1023 3 := by
  unfold rPutTok
  rw [ct_st_ne (by decide), ct_st_ne (by decide), ct_st_ne (by decide), ct_st_ne (by decide), ct_st_ne (by decide)]
/-- the text in the reference's memory -/
def RTx (L : Nat) (x : Nat → Nat) (m : ct_M) : Prop := m.1 1023 2 = nI L ∧ ∀ k, k < L → x k < 256 ∧ m.1 1024 k = nI (x k)
theorem RTx.keep {L t : Nat} {x : Nat → Nat} {m m' : ct_M} (h : RTx L x m) (f : FrP t m m') : RTx L x m' :=
  ⟨by rw [f.2.2.1 2 (by decide) (by decide)]; exact h.1, fun k hk => by rw [f.2.1 1024 (by omega)]; exact h.2 k hk⟩
theorem tk_two {L p t n d hi : Nat} {q : Nat → Nat} {W : Nat → Row} {x : Nat → Nat} {Q : Int32 → ct_M → Prop} {v6 : Int32} {m : ct_M} (hL : L ≤ 60) (ht : t < 3) (hx : RTx L x m) (hp : p < L) (hn : n ≤ p) (h3 : m.1 1023 3 = nI p) (hM : MRr m t n d q W) (hv : (v6 = 0 ∧ hi = 9) ∨ (v6 = 1 ∧ hi = 5))
    (h1 : p + 1 < L ∧ 48 ≤ x (p + 1) ∧ x (p + 1) ≤ 48 + hi → ∀ m', m'.1 1023 3 = nI (p + 2) → MRr m' t (n + 1) d q (pPut W n (nI (x p)) (nI (x (p + 1) - 48))) → FrP t m m' → Q 1 m')
    (h0 : ¬ (p + 1 < L ∧ 48 ≤ x (p + 1) ∧ x (p + 1) ≤ 48 + hi) → ∀ m', m'.1 1023 3 = nI (p + 1) → FrP t m m' → Q 0 m') : wb_X12_parseToken_299 Q 1023 (nI (x p)) v6 m := by
  have go : ∀ m1 : ct_M, m1 = ct_st m 1023 3 (nI (p + 1)) → wb_X12_parseToken_322 Q 1023 (nI (x p)) (nI hi) (0 : Int32) 1023 m1 := by
    intro m1 e1
    have f1 : FrP t m m1 := by subst e1; exact FrP.pos
    have x1 := hx.keep f1
    have p1 : m1.1 1023 3 = nI (p + 1) := by subst e1; rw [ct_st_eq, upd_same]
    have M1 : MRr m1 t n d q W := by subst e1; exact MRr_pos hM
    have h9 : hi < 10 := by omega
    unfold wb_X12_parseToken_322
    refine r_number (lo := 0) hL (by omega) (by omega) h9 x1.1 p1 x1.2 (fun a b c => ⟨fun e => absurd e (nI_n9 (by omega)), fun _ => ?_⟩) (fun a => ⟨fun _ => ?_, fun e => absurd rfl e⟩)
    · have M2 : MRr (ct_st m1 1023 3 (nI (p + 1 + 1))) t n d q W := MRr_pos M1
      refine r_put ht (by omega) M2.1 M2.2.2.1 ?_
      obtain ⟨a1, a2⟩ := MRr_put (c := nI (x p)) (e := nI (x (p + 1) - 48)) M2 (by omega)
      unfold wb_X12_parseToken_341
      refine ⟨fun e => absurd e (nI_n9 (by omega)), fun _ => h1 ⟨a, by omega, c⟩ _ ?_ a1 ((f1.tr FrP.pos).tr a2)⟩
      rw [put_pos, ct_st_eq, upd_same]
    · unfold wb_X12_parseToken_341
      exact ⟨fun _ => h0 (fun z => a ⟨z.1, by omega, z.2.2⟩) m1 p1 f1, fun e => absurd rfl e⟩
  unfold wb_X12_parseToken_299
  rw [h3, nI_ofNat 1, nI_add]
  intro m1 e1
  rcases hv with ⟨a, b⟩ | ⟨a, b⟩ <;> subst a b
  · exact ⟨fun _ => go m1 e1, fun e => absurd rfl e⟩
  · exact ⟨fun e => absurd e (by decide), fun _ => go m1 e1⟩
theorem r_parseToken {L t : Nat} {x : Nat → Nat} {S : PQ} {Q : Int32 → ct_M → Prop} {m : ct_M} (hL : L ≤ 60) (ht : t < 3) (hx : RTx L x m) (hS : PI0 L S) (hb : ∀ j, j < S.2.1 → S.2.2.2.2.2 2 j = -9 ∨ ∃ b : Nat, b < S.2.1 ∧ S.2.2.2.2.2 2 j = nI b) (hp : S.1 < L) (hM : MR m t S)
    (h1 : ∀ S', tStep L x S = some S' → ∀ m', MR m' t S' → FrP t m m' → Q 1 m')
    (h0 : tStep L x S = none → ∀ m', m'.1 1023 3 = nI (S.1 + pTw (x S.1)) → FrP t m m' → Q 0 m') : wp_X12_parseToken 1023 Q m := by
  obtain ⟨p, n, d, q, dp, W⟩ := S
  obtain ⟨g1, g2, g3, g4, g5⟩ := hS
  have g2 : n ≤ p := g2
  have g3 : d ≤ 3 := g3
  have g4 : ∀ i, i < d → q i < n ∧ (W 0 (q i) = 40 ∨ W 0 (q i) = 123) := g4
  have hb : ∀ j, j < n → W 2 j = -9 ∨ ∃ b : Nat, b < n ∧ W 2 j = nI b := hb
  have hp : p < L := hp
  obtain ⟨h3, hM⟩ := hM
  have h3 : m.1 1023 3 = nI p := h3
  have hM : MRr m t n d q W := hM
  have h1 : ∀ S', tStep L x (p, n, d, q, dp, W) = some S' → ∀ m', MR m' t S' → FrP t m m' → Q 1 m' := h1
  have h0 : tStep L x (p, n, d, q, dp, W) = none → ∀ m', m'.1 1023 3 = nI (p + pTw (x p)) → FrP t m m' → Q 0 m' := h0
  obtain ⟨hx1, hx2⟩ := hx.2 p hp
  have E := fun k hk => eqI hx1 k hk
  have l24 : ct_ln (1023 + 1) = 60 := by decide
  have l39 : ct_ln (1023 + 16) = 3 := by decide
  have l44 : ct_ln (1023 + 21) = 3 := by decide
  have l42 : ct_ln (1023 + 19) = 180 := by decide
  have l43 : ct_ln (1023 + 20) = 180 := by decide
  have eb : (60 : Int32) * nI t = nI (60 * t) := by rw [nI_ofNat 60, pk_mul]
  -- the place behind the sign
  have posn : ∀ m1 : ct_M, m1 = ct_st m 1023 3 (m.1 1023 3 + 1) → m1.1 1023 3 = nI (p + 1) ∧ MRr m1 t n d q W ∧ FrP t m m1 := by
    intro m1 e1
    rw [h3, nI_ofNat 1, nI_add] at e1
    subst e1
    exact ⟨by rw [ct_st_eq, upd_same], MRr_pos hM, FrP.pos⟩
  -- neither cell nor number
  have t255 : (x p = 33 ∨ x p = 120 → False) → (∀ c, tStep L x (p, n, d, q, dp, W) = some c → x p = 114 ∨ x p = 119 ∨ x p = 43 ∨ x p = 45 ∨ x p = 63) → wb_X12_parseToken_255 Q 1023 (nI (x p)) m := by
    intro k1 k2
    have st : x p = 114 ∨ x p = 119 ∨ x p = 43 ∨ x p = 45 ∨ x p = 63 → ∀ hi, (hi = if x p = 114 ∨ x p = 119 then 5 else 9) → tStep L x (p, n, d, q, dp, W) = if p + 1 < L ∧ 48 ≤ x (p + 1) ∧ x (p + 1) ≤ 48 + hi then some (p + 2, n + 1, d, q, awSet dp (n + 1) d, pPut W n (nI (x p)) (nI (x (p + 1) - 48))) else none := by
      intro c hi hh
      rw [tStep_def]
      rw [if_pos hp, if_neg (by omega), if_neg (by omega), if_neg (by omega), if_neg (by omega), if_neg (by omega)]
      by_cases c6 : x p = 114 ∨ x p = 119
      · rw [if_pos c6] at hh ⊢; subst hh; rfl
      · rw [if_neg c6] at hh ⊢; subst hh; rw [if_pos (by omega)]
    have two : ∀ (v6 : Int32) (hi : Nat), x p = 114 ∨ x p = 119 ∨ x p = 43 ∨ x p = 45 ∨ x p = 63 → (hi = if x p = 114 ∨ x p = 119 then 5 else 9) → ((v6 = 0 ∧ hi = 9) ∨ (v6 = 1 ∧ hi = 5)) → wb_X12_parseToken_299 Q 1023 (nI (x p)) v6 m := by
      intro v6 hi c hh hv
      have es := st c hi hh
      refine tk_two hL ht hx hp g2 h3 hM hv (fun z m' a b f => ?_) (fun z m' a f => ?_)
      · rw [if_pos z] at es
        exact h1 _ es m' ⟨a, b⟩ f
      · rw [if_neg z] at es
        exact h0 es m' (by rw [show pTw (x p) = 1 from if_pos c]; exact a) f
    have t272 : ¬ (x p = 114 ∨ x p = 119) → wb_X12_parseToken_272 Q 1023 (nI (x p)) 0 m := by
      intro c6
      have nine : ∀ c : x p = 43 ∨ x p = 45 ∨ x p = 63, wb_X12_parseToken_299 Q 1023 (nI (x p)) 0 m := fun c => two 0 9 (by omega) (by rw [if_neg c6]) (Or.inl ⟨rfl, rfl⟩)
      unfold wb_X12_parseToken_272
      refine ⟨fun e => absurd rfl e, fun _ => ⟨fun e => nine (Or.inl ((E 43 (by omega)).mp e)), fun e1 => ⟨fun e => nine (Or.inr (Or.inl ((E 45 (by omega)).mp e))), fun e2 => ⟨fun e => nine (Or.inr (Or.inr ((E 63 (by omega)).mp e))), fun e3 => ?_⟩⟩⟩⟩
      have c7 : ¬ (x p = 114 ∨ x p = 119 ∨ x p = 43 ∨ x p = 45 ∨ x p = 63) := by
        intro z
        rcases z with z | z | z | z | z
        · exact c6 (Or.inl z)
        · exact c6 (Or.inr z)
        · exact e1 (by rw [z]; rfl)
        · exact e2 (by rw [z]; rfl)
        · exact e3 (by rw [z]; rfl)
      have es : tStep L x (p, n, d, q, dp, W) = none := by
        cases he : tStep L x (p, n, d, q, dp, W) with
        | none => rfl
        | some c => exact absurd (k2 c he) c7
      exact h0 es m (by rw [show pTw (x p) = 0 from if_neg c7]; exact h3) FrP.rf
    unfold wb_X12_parseToken_255
    have five : ∀ c : x p = 114 ∨ x p = 119, wb_X12_parseToken_267 Q 1023 (nI (x p)) m := by
      intro c
      unfold wb_X12_parseToken_267 wb_X12_parseToken_272
      exact ⟨fun _ => two 1 5 (by omega) (by rw [if_pos c]) (Or.inr ⟨rfl, rfl⟩), fun e => absurd e (by decide)⟩
    refine ⟨fun e => five (Or.inl ((E 114 (by omega)).mp e)), fun e1 => ⟨fun e2 => t272 fun z => ?_, fun e => five (Or.inr ((E 119 (by omega)).mp e))⟩⟩
    rcases z with z | z
    · exact e1 (by rw [z]; rfl)
    · exact e2 (by rw [z]; rfl)
  -- a sign that closes or parts
  have inner : (x p = 124 ∨ x p = 41 ∨ x p = 125) → ∀ v5 : Int32, v5 = 1 → wb_X12_parseToken_153 Q 1023 (nI (x p)) (nI n) (nI (60 * t)) v5 m := by
    intro c v5 hv5
    subst hv5
    have k2 : ∀ c, tStep L x (p, n, d, q, dp, W) = none → tStep L x (p, n, d, q, dp, W) = some c → x p = 114 ∨ x p = 119 ∨ x p = 43 ∨ x p = 45 ∨ x p = 63 := fun c e1 e2 => by rw [e1] at e2; cases e2
    unfold wb_X12_parseToken_153
    refine ⟨fun e => absurd e (by decide), fun _ => ?_⟩
    have hq0 : 0 < d → q (d - 1) < n := fun h => (g4 (d - 1) (by omega)).1
    have ri : rInner m t d (q (d - 1)) (nI (x p)) ↔ 0 < d ∧ ((x p = 125 ∧ W 0 (q (d - 1)) = 123) ∨ (¬ x p = 125 ∧ W 0 (q (d - 1)) = 40 ∧ (W 2 (q (d - 1)) = -9 ↔ x p = 124))) := by
      unfold rInner
      constructor
      · intro ⟨a, b⟩
        have r0 := hM.2.2.2.2 0 (by omega) (q (d - 1)) (by have := hq0 a; omega)
        have r2 := hM.2.2.2.2 2 (by omega) (q (d - 1)) (by have := hq0 a; omega)
        rw [show 1040 + 0 = 1040 from rfl] at r0
        rw [show 1040 + 2 = 1042 from rfl] at r2
        rw [r0, r2] at b
        refine ⟨a, ?_⟩
        rcases b with ⟨b1, b2⟩ | ⟨b1, b2, b3⟩
        · exact Or.inl ⟨(E 125 (by omega)).mp b1, b2⟩
        · exact Or.inr ⟨fun z => b1 (by rw [z]; rfl), b2, b3.trans (E 124 (by omega))⟩
      · intro ⟨a, b⟩
        have r0 := hM.2.2.2.2 0 (by omega) (q (d - 1)) (by have := hq0 a; omega)
        have r2 := hM.2.2.2.2 2 (by omega) (q (d - 1)) (by have := hq0 a; omega)
        rw [show 1040 + 0 = 1040 from rfl] at r0
        rw [show 1040 + 2 = 1042 from rfl] at r2
        rw [r0, r2]
        refine ⟨a, ?_⟩
        rcases b with ⟨b1, b2⟩ | ⟨b1, b2, b3⟩
        · exact Or.inl ⟨by rw [b1]; rfl, b2⟩
        · exact Or.inr ⟨fun z => b1 ((E 125 (by omega)).mp z), b2, b3.trans (E 124 (by omega)).symm⟩
    by_cases hd0 : 0 < d
    · refine r_isInner ht g3 (q := q (d - 1)) (by have := hq0 hd0; omega) hM.1 hM.2.1 (fun _ => hM.2.2.2.1 (d - 1) (by omega)) (fun r => ⟨fun e => absurd e (by decide), fun _ => ?_⟩) (fun r => ⟨fun _ => ?_, fun e => absurd rfl e⟩)
      · obtain ⟨-, r⟩ := ri.mp r
        have hq := hq0 hd0
        intro m5 e5
        obtain ⟨p5, M5, f5⟩ := posn m5 e5
        refine r_put ht (by omega) M5.1 M5.2.2.1 ?_
        obtain ⟨M6, f6⟩ := MRr_put (c := nI (x p)) (e := 0) M5 (by omega)
        have p6 : (rPutTok m5 t n (nI (x p)) 0).1 1023 3 = nI (p + 1) := by rw [put_pos]; exact p5
        generalize hm6 : rPutTok m5 t n (nI (x p)) 0 = m6 at M6 f6 p6
        have e1 : nI d - 1 = nI (d - 1) := by
          have := nI_pred (d - 1)
          rw [show d - 1 + 1 = d by omega] at this
          exact this
        rw [M6.2.1, e1]
        simp (disch := omega) only [vp_nI, cl, l44, l42, l43]
        refine ⟨by omega, ?_⟩
        intro x8 hx8
        have s6 : m6.1 (1023 + 21) (d - 1) = nI (q (d - 1)) := M6.2.2.2.1 (d - 1) (by omega)
        rw [s6, nI_add] at hx8
        subst hx8
        simp (disch := omega) only [vp_nI, cl]
        have fin : ∀ (k : Nat) (m' : ct_M) (W' : Nat → Row), m'.1 1023 3 = nI (p + 1) → MRr m' t (n + 1) k q W' → FrP t m m' → tStep L x (p, n, d, q, dp, W) = some (p + 1, n + 1, k, q, awSet dp (n + 1) k, W') → Q 1 m' := fun k m' W' a b f e => h1 _ e m' ⟨a, b⟩ f
        refine ⟨fun n124 => ?_, fun y124 => ?_⟩
        · have n124' : ¬ x p = 124 := fun z => n124 (by rw [z]; rfl)
          intro m10 e10
          have M10 : MRr m10 t (n + 1) (d - 1) q (pPut W n (nI (x p)) 0) := by
            obtain ⟨a1, a2, a3, a4, a5⟩ := M6
            subst e10
            exact ⟨by rw [ct_st_eq, upd_ne _ _ (by decide)]; exact a1, by rw [ct_st_eq, upd_same], by rw [ct_st_ne (by decide)]; exact a3, fun i hi => by rw [ct_st_ne (by decide)]; exact a4 i (by omega), fun k hk j hj => by rw [ct_st_ne (by omega)]; exact a5 k hk j hj⟩
          have f10 : FrP t m m10 := (f5.tr f6).tr (by subst e10; exact FrP.top)
          have p10 : m10.1 1023 3 = nI (p + 1) := by subst e10; rw [ct_st_eq, upd_ne _ _ (by decide)]; exact p6
          refine ⟨by omega, ?_⟩
          intro m12 e12
          have M12 : MRr m12 t (n + 1) (d - 1) q (wSet (pPut W n (nI (x p)) 0) 3 (q (d - 1)) (nI n)) := by subst e12; exact MRr_row (k := 3) M10 (by omega)
          have f12 : FrP t m m12 := f10.tr (by subst e12; exact FrP.row (k := 3) (by omega) (by omega))
          have p12 : m12.1 1023 3 = nI (p + 1) := by subst e12; rw [ct_st_ne (by decide)]; exact p10
          refine ⟨fun n41 => ?_, fun y41 => ?_⟩
          · have c5 : x p = 125 := by
              have : ¬ x p = 41 := fun z => n41 (by rw [z]; rfl)
              omega
            have r2 : W 0 (q (d - 1)) = 123 := by
              rcases r with r | r
              · exact r.2
              · exact absurd c5 r.1
            refine fin (d - 1) m12 _ p12 M12 f12 ?_
            rw [tStep_def]
            rw [if_pos hp, if_neg (by omega), if_neg (by omega), if_neg (by omega), if_neg (by omega), if_pos c5, if_pos ⟨hd0, r2⟩]
          · have c4 : x p = 41 := (E 41 (by omega)).mp y41
            have r2 : W 0 (q (d - 1)) = 40 ∧ ¬ W 2 (q (d - 1)) = -9 := by
              rcases r with r | r
              · omega
              · exact ⟨r.2.1, fun z => by have := r.2.2.mp z; omega⟩
            obtain ⟨b, hb60, hbe⟩ : ∃ b : Nat, b < n ∧ W 2 (q (d - 1)) = nI b := (hb _ hq).resolve_left r2.2
            have e42 : m12.1 (1023 + 19) (60 * t + q (d - 1)) = nI b := by
              have := M12.2.2.2.2 2 (by omega) (q (d - 1)) (by omega)
              rw [wSet_k (by decide), pPut_ne 2 (by omega), hbe] at this
              exact this
            rw [e42, nI_add]
            simp (disch := omega) only [vp_nI, cl]
            refine ⟨by omega, by omega, ?_⟩
            intro m15 e15
            have M15 : MRr m15 t (n + 1) (d - 1) q (wSet (wSet (pPut W n (nI (x p)) 0) 3 (q (d - 1)) (nI n)) 3 b (nI n)) := by subst e15; exact MRr_row (k := 3) M12 (by omega)
            have f15 : FrP t m m15 := f12.tr (by subst e15; exact FrP.row (k := 3) (by omega) (by omega))
            have p15 : m15.1 1023 3 = nI (p + 1) := by subst e15; rw [ct_st_ne (by decide)]; exact p12
            refine fin (d - 1) m15 _ p15 M15 f15 ?_
            rw [tStep_def]
            rw [if_pos hp, if_neg (by omega), if_neg (by omega), if_neg (by omega), if_pos c4, if_pos ⟨hd0, r2⟩, hbe, cl (by omega)]
        · have c3 : x p = 124 := (E 124 (by omega)).mp y124
          have r2 : W 0 (q (d - 1)) = 40 ∧ W 2 (q (d - 1)) = -9 := by
            rcases r with r | r
            · omega
            · exact ⟨r.2.1, r.2.2.mpr c3⟩
          refine ⟨by omega, ?_⟩
          intro m17 e17
          have M17 : MRr m17 t (n + 1) d q (wSet (pPut W n (nI (x p)) 0) 2 (q (d - 1)) (nI n)) := by subst e17; exact MRr_row (k := 2) M6 (by omega)
          have f17 : FrP t m m17 := (f5.tr f6).tr (by subst e17; exact FrP.row (k := 2) (by omega) (by omega))
          have p17 : m17.1 1023 3 = nI (p + 1) := by subst e17; rw [ct_st_ne (by decide)]; exact p6
          refine fin d m17 _ p17 M17 f17 ?_
          rw [tStep_def]
          rw [if_pos hp, if_neg (by omega), if_neg (by omega), if_pos c3, if_pos ⟨hd0, r2⟩]
      · have no : tStep L x (p, n, d, q, dp, W) = none := by
          have r' : ¬ (0 < d ∧ ((x p = 125 ∧ W 0 (q (d - 1)) = 123) ∨ (¬ x p = 125 ∧ W 0 (q (d - 1)) = 40 ∧ (W 2 (q (d - 1)) = -9 ↔ x p = 124)))) := fun z => r (ri.mpr z)
          rw [tStep_def]
          rw [if_pos hp, if_neg (by omega), if_neg (by omega)]
          by_cases c3 : x p = 124
          · rw [if_pos c3, if_neg fun z => r' ⟨z.1, Or.inr ⟨by omega, z.2.1, fun _ => c3, fun _ => z.2.2⟩⟩]
          · rw [if_neg c3]
            by_cases c4 : x p = 41
            · rw [if_pos c4, if_neg fun z => r' ⟨z.1, Or.inr ⟨by omega, z.2.1, fun y => absurd y z.2.2, fun y => absurd y c3⟩⟩]
            · rw [if_neg c4, if_pos (by omega), if_neg fun z => r' ⟨z.1, Or.inl ⟨by omega, z.2⟩⟩]
        exact t255 (by omega) fun c hc => k2 c no hc
    · have no : tStep L x (p, n, d, q, dp, W) = none := by
        rw [tStep_def]
        rw [if_pos hp, if_neg (by omega), if_neg (by omega)]
        by_cases c3 : x p = 124
        · rw [if_pos c3, if_neg fun z => hd0 z.1]
        · rw [if_neg c3]
          by_cases c4 : x p = 41
          · rw [if_pos c4, if_neg fun z => hd0 z.1]
          · rw [if_neg c4, if_pos (by omega), if_neg fun z => hd0 z.1]
      refine r_isInner ht g3 (q := 0) (by omega) hM.1 hM.2.1 (fun h => absurd h hd0) (fun r => absurd r.1 hd0) (fun r => ⟨fun _ => t255 (by omega) fun c hc => k2 c no hc, fun e => absurd rfl e⟩)
  -- a sign that does neither
  have outer : ¬ (x p = 124 ∨ x p = 41 ∨ x p = 125) → (x p = 33 ∨ x p = 120 → False) → ((x p = 40 ∨ x p = 123) → ¬ d < 3) → wb_X12_parseToken_153 Q 1023 (nI (x p)) (nI n) (nI (60 * t)) 0 m := by
    intro c k1 k2
    unfold wb_X12_parseToken_153
    refine ⟨fun _ => t255 k1 fun S' hS => ?_, fun e => absurd rfl e⟩
    rw [tStep_def] at hS
    rw [if_pos hp, if_neg k1] at hS
    by_cases c2 : x p = 40 ∨ x p = 123
    · rw [if_pos c2, if_neg (k2 c2)] at hS; cases hS
    · rw [if_neg c2, if_neg (by omega), if_neg (by omega), if_neg (by omega)] at hS
      by_cases c6 : x p = 114 ∨ x p = 119
      · omega
      · rw [if_neg c6] at hS
        by_cases c7 : x p = 43 ∨ x p = 45 ∨ x p = 63
        · omega
        · rw [if_neg c7] at hS; cases hS
  -- a plain sign
  have plain : (x p = 33 ∨ x p = 120) → wb_X12_parseToken_84 Q 1023 (nI (x p)) m := by
    intro c
    unfold wb_X12_parseToken_84
    intro m1 e1
    obtain ⟨p1, M1, f1⟩ := posn m1 e1
    refine r_put ht (by omega) M1.1 M1.2.2.1 ?_
    obtain ⟨M2, f2⟩ := MRr_put (c := nI (x p)) (e := 0) M1 (by omega)
    refine h1 (p + 1, n + 1, d, q, awSet dp (n + 1) d, pPut W n (nI (x p)) 0) ?_ _ ⟨by rw [put_pos]; exact p1, M2⟩ (f1.tr f2)
    rw [tStep_def]
    rw [if_pos hp, if_pos c]
  -- the flags are known
  have t70 : ∀ v4 v5 : Int32, ((x p = 40 ∨ x p = 123) → v4 = 1) → (¬ (x p = 40 ∨ x p = 123) → v4 = 0) → ((x p = 124 ∨ x p = 41 ∨ x p = 125) → v5 = 1) → (¬ (x p = 124 ∨ x p = 41 ∨ x p = 125) → v5 = 0) → wb_X12_parseToken_70 Q 1023 (nI (x p)) (nI n) (nI (60 * t)) v4 v5 m := by
    intro v4 v5 a1 a0 b1 b0
    unfold wb_X12_parseToken_70
    refine ⟨fun e => plain (Or.inl ((E 33 (by omega)).mp e)), fun n33 => ⟨fun n120 => ⟨fun z => ?_, fun z => ?_⟩, fun e => plain (Or.inr ((E 120 (by omega)).mp e))⟩⟩
    · have no : ¬ (x p = 40 ∨ x p = 123) := fun y => by rw [a1 y] at z; exact absurd z (by decide)
      by_cases c : x p = 124 ∨ x p = 41 ∨ x p = 125
      · exact inner c v5 (b1 c)
      · rw [b0 c]
        refine outer c (fun y => ?_) (fun y => absurd y no)
        rcases y with y | y
        · exact n33 (by rw [y]; rfl)
        · exact n120 (by rw [y]; rfl)
    · have yes : x p = 40 ∨ x p = 123 := by
        by_cases y : x p = 40 ∨ x p = 123
        · exact y
        · exact absurd (a0 y) z
      rw [hM.2.1]
      refine ⟨fun w => ?_, fun w => ?_⟩
      · have hd : ¬ d < 3 := by have := (cmp_le (a := 3) (by decide) (by omega)).mp w; omega
        rw [b0 (by omega)]
        exact outer (by omega) (by omega) (fun _ => hd)
      · have hd : d < 3 := by
          refine Nat.lt_of_not_le fun y => w ((cmp_le (a := 3) (by decide) (by omega)).mpr y)
        intro m5 e5
        obtain ⟨p5, M5, f5⟩ := posn m5 e5
        refine r_put ht (by omega) M5.1 M5.2.2.1 ?_
        obtain ⟨M6, f6⟩ := MRr_put (c := nI (x p)) (e := 0) M5 (by omega)
        have p6 : (rPutTok m5 t n (nI (x p)) 0).1 1023 3 = nI (p + 1) := by rw [put_pos]; exact p5
        generalize rPutTok m5 t n (nI (x p)) 0 = m6 at M6 f6 p6
        rw [M6.2.1]
        simp (disch := omega) only [vp_nI, cl, l44]
        refine ⟨hd, ?_⟩
        intro m8 e8 m9 e9
        have d8 : m8.1 1023 28 = nI d := by subst e8; rw [ct_st_ne (by decide)]; exact M6.2.1
        rw [d8, nI_ofNat 1, nI_add] at e9
        refine h1 (p + 1, n + 1, d + 1, awSet q d n, awSet dp (n + 1) (d + 1), pPut W n (nI (x p)) 0) ?_ m9 ⟨?_, ?_, ?_, ?_, fun i hi => ?_, fun k hk j hj => ?_⟩ ((((f5.tr f6).tr (m'' := m8) (by subst e8; exact FrP.stk)).tr (by subst e9; exact FrP.top)))
        · rw [tStep_def]
          rw [if_pos hp, if_neg (by omega), if_pos yes, if_pos hd]
        · subst e9 e8; rw [ct_st_eq, upd_ne _ _ (by decide), ct_st_ne (by decide)]; exact p6
        · subst e9 e8; rw [ct_st_eq, upd_ne _ _ (by decide), ct_st_ne (by decide)]; exact M6.1
        · subst e9; rw [ct_st_eq, upd_same]
        · subst e9 e8; rw [ct_st_ne (by decide), ct_st_ne (by decide)]; exact M6.2.2.1
        · have hi : i < d + 1 := hi
          show m9.1 1044 i = nI (awSet q d n i)
          have : m9.1 1044 = upd (m6.1 1044) d (nI n) := by subst e9 e8; rw [ct_st_ne (by decide)]; exact ct_st_eq
          rw [this]
          by_cases e : i = d
          · subst e; rw [upd_same, awS_eq]
          · rw [upd_ne _ _ e, awS_ne e]; exact M6.2.2.2.1 i (by omega)
        · subst e9 e8; rw [ct_st_ne (by omega), ct_st_ne (by omega)]; exact M6.2.2.2.2 k hk j hj
  unfold wp_X12_parseToken
  rw [h3, hM.1]
  simp (disch := omega) only [vp_nI, cl, l24, l39]
  rw [show m.1 (1023 + 1) p = nI (x p) from hx2, show m.1 (1023 + 16) t = nI n from hM.2.2.1]
  refine ⟨by omega, ?_⟩
  intro x2 e2
  subst e2
  refine ⟨ht, ?_⟩
  intro x4 e4 x5 e5
  rw [eb] at e5
  subst e4 e5
  have t45 : ∀ v4 : Int32, ((x p = 40 ∨ x p = 123) → v4 = 1) → (¬ (x p = 40 ∨ x p = 123) → v4 = 0) → wb_X12_parseToken_45 Q 1023 (nI (x p)) (nI n) (nI (60 * t)) v4 m := by
    intro v4 a1 a0
    have yes : (x p = 124 ∨ x p = 41 ∨ x p = 125) → wb_X12_parseToken_65 Q 1023 (nI (x p)) (nI n) (nI (60 * t)) v4 m := fun c => t70 v4 1 a1 a0 (fun _ => rfl) (fun z => absurd c z)
    unfold wb_X12_parseToken_45
    refine ⟨fun e => yes (Or.inl ((E 124 (by omega)).mp e)), fun m1 => ⟨fun e => yes (Or.inr (Or.inl ((E 41 (by omega)).mp e))), fun m2 => ⟨fun m3 => t70 v4 0 a1 a0 (fun z => ?_) (fun _ => rfl), fun e => yes (Or.inr (Or.inr ((E 125 (by omega)).mp e)))⟩⟩⟩
    exfalso
    rcases z with z | z | z
    · exact m1 (by rw [z]; rfl)
    · exact m2 (by rw [z]; rfl)
    · exact m3 (by rw [z]; rfl)
  have op : (x p = 40 ∨ x p = 123) → wb_X12_parseToken_40 Q 1023 (nI (x p)) (nI n) (nI (60 * t)) m := fun c => t45 1 (fun _ => rfl) (fun z => absurd c z)
  refine ⟨fun e => op (Or.inl ((E 40 (by omega)).mp e)), fun m1 => ⟨fun m2 => t45 0 (fun z => ?_) (fun _ => rfl), fun e => op (Or.inr ((E 123 (by omega)).mp e))⟩⟩
  exfalso
  rcases z with z | z
  · exact m1 (by rw [z]; rfl)
  · exact m2 (by rw [z]; rfl)
