/-! a thread's program as a text spells it: place, tokens, depth, stack of openers, depths, rows (letter, digit, bar, close) -/
abbrev PQ : Type := Nat × Nat × Nat × (Nat → Nat) × (Nat → Nat) × (Nat → Row)
def pPut (W : Nat → Row) (n : Nat) (c d : Int32) : Nat → Row := fun k => if k = 0 then upd (W 0) n c else if k = 1 then upd (W 1) n d else if k = 2 then upd (W 2) n (-9) else if k = 3 then upd (W 3) n (-9) else W k
def wSet (W : Nat → Row) (k j : Nat) (x : Int32) : Nat → Row := fun i => if i = k then upd (W i) j x else W i
def tStep (L : Nat) (x : Nat → Nat) : PQ → Option PQ
  | (p, n, d, q, dp, W) =>
    if p < L then
      (if x p = 33 ∨ x p = 120 then some (p + 1, n + 1, d, q, awSet dp (n + 1) d, pPut W n (nI (x p)) 0)
      else if x p = 40 ∨ x p = 123 then (if d < 3 then some (p + 1, n + 1, d + 1, awSet q d n, awSet dp (n + 1) (d + 1), pPut W n (nI (x p)) 0) else none)
      else if x p = 124 then (if 0 < d ∧ W 0 (q (d - 1)) = 40 ∧ W 2 (q (d - 1)) = -9 then some (p + 1, n + 1, d, q, awSet dp (n + 1) d, wSet (pPut W n (nI (x p)) 0) 2 (q (d - 1)) (nI n)) else none)
      else if x p = 41 then (if 0 < d ∧ W 0 (q (d - 1)) = 40 ∧ ¬ W 2 (q (d - 1)) = -9 then some (p + 1, n + 1, d - 1, q, awSet dp (n + 1) (d - 1), wSet (wSet (pPut W n (nI (x p)) 0) 3 (q (d - 1)) (nI n)) 3 (W 2 (q (d - 1))).toNatClampNeg (nI n)) else none)
      else if x p = 125 then (if 0 < d ∧ W 0 (q (d - 1)) = 123 then some (p + 1, n + 1, d - 1, q, awSet dp (n + 1) (d - 1), wSet (pPut W n (nI (x p)) 0) 3 (q (d - 1)) (nI n)) else none)
      else if x p = 114 ∨ x p = 119 then (if p + 1 < L ∧ 48 ≤ x (p + 1) ∧ x (p + 1) ≤ 48 + 5 then some (p + 2, n + 1, d, q, awSet dp (n + 1) d, pPut W n (nI (x p)) (nI (x (p + 1) - 48))) else none)
      else if x p = 43 ∨ x p = 45 ∨ x p = 63 then (if p + 1 < L ∧ 48 ≤ x (p + 1) ∧ x (p + 1) ≤ 48 + 9 then some (p + 2, n + 1, d, q, awSet dp (n + 1) d, pPut W n (nI (x p)) (nI (x (p + 1) - 48))) else none)
      else none)
    else none
theorem tStep_def {L : Nat} {x : Nat → Nat} {p n d : Nat} {q dp : Nat → Nat} {W : Nat → Row} : tStep L x (p, n, d, q, dp, W) =
    (if p < L then
      (if x p = 33 ∨ x p = 120 then some (p + 1, n + 1, d, q, awSet dp (n + 1) d, pPut W n (nI (x p)) 0)
      else if x p = 40 ∨ x p = 123 then (if d < 3 then some (p + 1, n + 1, d + 1, awSet q d n, awSet dp (n + 1) (d + 1), pPut W n (nI (x p)) 0) else none)
      else if x p = 124 then (if 0 < d ∧ W 0 (q (d - 1)) = 40 ∧ W 2 (q (d - 1)) = -9 then some (p + 1, n + 1, d, q, awSet dp (n + 1) d, wSet (pPut W n (nI (x p)) 0) 2 (q (d - 1)) (nI n)) else none)
      else if x p = 41 then (if 0 < d ∧ W 0 (q (d - 1)) = 40 ∧ ¬ W 2 (q (d - 1)) = -9 then some (p + 1, n + 1, d - 1, q, awSet dp (n + 1) (d - 1), wSet (wSet (pPut W n (nI (x p)) 0) 3 (q (d - 1)) (nI n)) 3 (W 2 (q (d - 1))).toNatClampNeg (nI n)) else none)
      else if x p = 125 then (if 0 < d ∧ W 0 (q (d - 1)) = 123 then some (p + 1, n + 1, d - 1, q, awSet dp (n + 1) (d - 1), wSet (pPut W n (nI (x p)) 0) 3 (q (d - 1)) (nI n)) else none)
      else if x p = 114 ∨ x p = 119 then (if p + 1 < L ∧ 48 ≤ x (p + 1) ∧ x (p + 1) ≤ 48 + 5 then some (p + 2, n + 1, d, q, awSet dp (n + 1) d, pPut W n (nI (x p)) (nI (x (p + 1) - 48))) else none)
      else if x p = 43 ∨ x p = 45 ∨ x p = 63 then (if p + 1 < L ∧ 48 ≤ x (p + 1) ∧ x (p + 1) ≤ 48 + 9 then some (p + 2, n + 1, d, q, awSet dp (n + 1) d, pPut W n (nI (x p)) (nI (x (p + 1) - 48))) else none)
      else none)
    else none) := rfl
def pThread (L : Nat) (x : Nat → Nat) : Nat → PQ → Option PQ
  | 0, _ => none
  | f + 1, S => if S.1 < L ∧ x S.1 = 46 ∧ S.2.2.1 = 0 then some S else match tStep L x S with
    | none => none
    | some S' => pThread L x f S'
/-- signs that want a digit -/
def pTw (c : Nat) : Nat := if c = 114 ∨ c = 119 ∨ c = 43 ∨ c = 45 ∨ c = 63 then 1 else 0
def PI0 (L : Nat) (S : PQ) : Prop := S.1 ≤ L ∧ S.2.1 ≤ S.1 ∧ S.2.2.1 ≤ 3 ∧ (∀ i, i < S.2.2.1 → S.2.2.2.1 i < S.2.1 ∧ (S.2.2.2.2.2 0 (S.2.2.2.1 i) = 40 ∨ S.2.2.2.2.2 0 (S.2.2.2.1 i) = 123)) ∧ ∀ i j, i < j → j < S.2.2.1 → S.2.2.2.1 i < S.2.2.2.1 j
noncomputable def awOf (W : Nat → Row) (j : Nat) : Nat := if W 0 j = 123 then 125 else if W 2 j = -9 then 124 else 41
def AWR (S : PQ) (aw : Nat → Nat) : Prop := ∀ i, i < S.2.2.1 → aw i = awOf S.2.2.2.2.2 (S.2.2.2.1 i)
theorem nI_n9 {b : Nat} (h : b < 2 ^ 31) : ¬ nI b = -9 := by
  intro e
  have := congrArg Int32.toInt e
  rw [nI_toInt h, show (-9 : Int32).toInt = -9 from rfl] at this
  omega
theorem pPut_ne {W : Nat → Row} {n j : Nat} {c d : Int32} (k : Nat) (h : j ≠ n) : pPut W n c d k j = W k j := by
  unfold pPut
  (repeat' split) <;> first | (rename_i e; subst e; exact upd_ne _ _ h) | rfl
theorem pPut_0 {W : Nat → Row} {n : Nat} {c d : Int32} : pPut W n c d 0 n = c := upd_same _ _ _
theorem pPut_1 {W : Nat → Row} {n : Nat} {c d : Int32} : pPut W n c d 1 n = d := upd_same _ _ _
theorem pPut_2 {W : Nat → Row} {n : Nat} {c d : Int32} : pPut W n c d 2 n = -9 := upd_same _ _ _
theorem pPut_3 {W : Nat → Row} {n : Nat} {c d : Int32} : pPut W n c d 3 n = -9 := upd_same _ _ _
theorem wSet_k {W : Nat → Row} {k j i : Nat} {x : Int32} (h : i ≠ k) : wSet W k j x i = W i := if_neg h
theorem wSet_ne {W : Nat → Row} {k j i : Nat} {x : Int32} (h : i ≠ j) (l : Nat) : wSet W k j x l i = W l i := by
  unfold wSet
  split
  · exact upd_ne _ _ h
  · rfl
theorem wSet_eq {W : Nat → Row} {k j : Nat} {x : Int32} : wSet W k j x k j = x := by
  unfold wSet; rw [if_pos rfl, upd_same]
theorem awS_eq {f : Nat → Nat} {k v : Nat} : awSet f k v k = v := if_pos rfl
theorem awS_ne {f : Nat → Nat} {k v i : Nat} (h : i ≠ k) : awSet f k v i = f i := if_neg h
theorem awOf_put {W : Nat → Row} {n j : Nat} {c d : Int32} (h : j ≠ n) : awOf (pPut W n c d) j = awOf W j := by
  unfold awOf; rw [pPut_ne 0 h, pPut_ne 2 h]
/-- one token of the automaton -/
theorem aErr_s {x : Nat → Nat} {L p : Nat} {s s' : Aut} (h : p < L) (e : aStep s (x p) = some s') : aErr x (L - p) p s = aErr x (L - (p + 1)) (p + 1) s' := by
  have : L - p = (L - (p + 1)) + 1 := by omega
  rw [this]
  show (match aStep s (x p) with | some s' => aErr x (L - (p + 1)) (p + 1) s' | none => nI p) = _
  rw [e]
theorem aErr_n {x : Nat → Nat} {L p : Nat} {s : Aut} (h : p < L) (e : aStep s (x p) = none) : aErr x (L - p) p s = nI p := by
  have : L - p = (L - (p + 1)) + 1 := by omega
  rw [this]
  show (match aStep s (x p) with | some s' => aErr x (L - (p + 1)) (p + 1) s' | none => nI p) = _
  rw [e]
theorem aErr_0 {x : Nat → Nat} {L : Nat} {s : Aut} (e : s.1 ≠ 2) : aErr x (L - L) L s = nI L := by
  rw [Nat.sub_self]
  exact if_neg fun z => e z.1
theorem aStep_4 {vr tr d x : Nat} {aw : Nat → Nat} : aStep (4, vr, tr, d, aw) x = aTok vr tr d aw x := by simp [aStep]
theorem aErr_two {x : Nat → Nat} {L p e vr tr d hi : Nat} {aw : Nat → Nat} (he : (e = 5 ∧ hi = 5) ∨ (e = 6 ∧ hi = 9)) (hp : p ≤ L) : (p < L ∧ 48 ≤ x p ∧ x p ≤ 48 + hi → aErr x (L - p) p (e, vr, tr, d, aw) = aErr x (L - (p + 1)) (p + 1) (4, vr, tr, d, aw)) ∧ (¬ (p < L ∧ 48 ≤ x p ∧ x p ≤ 48 + hi) → aErr x (L - p) p (e, vr, tr, d, aw) = nI p) := by
  refine ⟨fun ⟨h1, h2, h3⟩ => aErr_s h1 ?_, fun h => ?_⟩
  · rcases he with ⟨a, b⟩ | ⟨a, b⟩ <;> subst a b
    · rw [aStep_5, if_pos (by omega)]
    · rw [aStep_6, if_pos (by omega)]
  · by_cases c : p < L
    · refine aErr_n c ?_
      rcases he with ⟨a, b⟩ | ⟨a, b⟩ <;> subst a b
      · rw [aStep_5, if_neg (by omega)]
      · rw [aStep_6, if_neg (by omega)]
    · have : p = L := by omega
      subst this
      exact aErr_0 (by show e ≠ 2; omega)
/-- one token: what it leaves is sound, and the automaton goes the same way -/
theorem t_some {x : Nat → Nat} {L vr tr : Nat} {S S' : PQ} {aw : Nat → Nat} (hL : L ≤ 60) (h : PI0 L S) (ha : AWR S aw) (hs : tStep L x S = some S') : S.1 < S'.1 ∧ PI0 L S' ∧ ∃ aw', AWR S' aw' ∧ aErr x (L - S.1) S.1 (4, vr, tr, S.2.2.1, aw) = aErr x (L - S'.1) S'.1 (4, vr, tr, S'.2.2.1, aw') := by
  obtain ⟨p, n, d, q, dp, W⟩ := S
  obtain ⟨g1, g2, g3, g4, g5⟩ := h
  have g1 : p ≤ L := g1
  have g2 : n ≤ p := g2
  have g3 : d ≤ 3 := g3
  have g4 : ∀ i, i < d → q i < n ∧ (W 0 (q i) = 40 ∨ W 0 (q i) = 123) := g4
  have g5 : ∀ i j, i < j → j < d → q i < q j := g5
  have ha : ∀ i, i < d → aw i = awOf W (q i) := ha
  show p < S'.1 ∧ PI0 L S' ∧ ∃ aw', AWR S' aw' ∧ aErr x (L - p) p (4, vr, tr, d, aw) = aErr x (L - S'.1) S'.1 (4, vr, tr, S'.2.2.1, aw')
  have plain : ∀ (p' : Nat) (c1 c2 : Int32), p < p' → p' ≤ L → PI0 L (p', n + 1, d, q, awSet dp (n + 1) d, pPut W n c1 c2) ∧ AWR (p', n + 1, d, q, awSet dp (n + 1) d, pPut W n c1 c2) aw := by
    intro p' c1 c2 h1 h2
    refine ⟨⟨h2, by show n + 1 ≤ p'; omega, g3, fun i hi => ?_, g5⟩, fun i hi => ?_⟩
    · have := g4 i hi
      refine ⟨by show q i < n + 1; omega, ?_⟩
      show pPut W n c1 c2 0 (q i) = 40 ∨ pPut W n c1 c2 0 (q i) = 123
      rw [pPut_ne 0 (by omega)]; exact this.2
    · show aw i = awOf (pPut W n c1 c2) (q i)
      have := g4 i hi
      rw [awOf_put (by omega)]; exact ha i hi
  rw [tStep_def] at hs
  by_cases hp : p < L
  · rw [if_pos hp] at hs
    by_cases c1 : x p = 33 ∨ x p = 120
    · rw [if_pos c1] at hs
      cases hs
      obtain ⟨a, b⟩ := plain (p + 1) (nI (x p)) 0 (by omega) (by omega)
      refine ⟨Nat.lt_succ_self p, a, aw, b, aErr_s hp ?_⟩
      rw [aStep_4]; unfold aTok; rw [if_neg (by omega), if_neg (by omega), if_pos c1]
    · rw [if_neg c1] at hs
      by_cases c2 : x p = 40 ∨ x p = 123
      · rw [if_pos c2] at hs
        by_cases hd : d < 3
        · rw [if_pos hd] at hs
          cases hs
          refine ⟨Nat.lt_succ_self p, ⟨by show p + 1 ≤ L; omega, by show n + 1 ≤ p + 1; omega, by show d + 1 ≤ 3; omega, fun i hi => ?_, fun i j hij hj => ?_⟩, awSet aw d (if x p = 40 then 124 else 125), fun i hi => ?_, aErr_s hp ?_⟩
          · show awSet q d n i < n + 1 ∧ (pPut W n (nI (x p)) 0 0 (awSet q d n i) = 40 ∨ pPut W n (nI (x p)) 0 0 (awSet q d n i) = 123)
            by_cases e : i = d
            · subst e
              rw [awS_eq, pPut_0]
              refine ⟨by omega, ?_⟩
              rcases c2 with c | c <;> rw [c]
              · exact Or.inl rfl
              · exact Or.inr rfl
            · have hi : i < d + 1 := hi
              have := g4 i (by omega)
              rw [awS_ne e, pPut_ne 0 (by omega)]
              exact ⟨by omega, this.2⟩
          · show awSet q d n i < awSet q d n j
            have hj : j < d + 1 := hj
            rw [awS_ne (by omega)]
            by_cases e : j = d
            · subst e; rw [awS_eq]; exact (g4 i hij).1
            · rw [awS_ne e]; exact g5 i j hij (by omega)
          · show awSet aw d _ i = awOf (pPut W n (nI (x p)) 0) (awSet q d n i)
            have hi : i < d + 1 := hi
            by_cases e : i = d
            · subst e
              rw [awS_eq, awS_eq]
              unfold awOf
              rw [pPut_0, pPut_2]
              rcases c2 with c | c <;> rw [c] <;> rfl
            · have := g4 i (by omega)
              rw [awS_ne e, awS_ne e, awOf_put (by omega)]
              exact ha i (by omega)
          · rw [aStep_4]; unfold aTok
            rw [if_neg (by omega), if_neg (by omega), if_neg c1]
            rcases c2 with c | c
            · rw [if_pos c, if_pos hd, if_pos c]
            · rw [if_neg (by omega), if_pos c, if_pos hd, if_neg (by omega)]
        · rw [if_neg hd] at hs; cases hs
      · rw [if_neg c2] at hs
        by_cases c3 : x p = 124
        · rw [if_pos c3] at hs
          by_cases hc : 0 < d ∧ W 0 (q (d - 1)) = 40 ∧ W 2 (q (d - 1)) = -9
          · rw [if_pos hc] at hs
            cases hs
            obtain ⟨a, b⟩ := plain (p + 1) (nI (x p)) 0 (by omega) (by omega)
            have hn4 := g4 (d - 1) (by omega)
            refine ⟨Nat.lt_succ_self p, ⟨a.1, a.2.1, a.2.2.1, fun i hi => ?_, g5⟩, awSet aw (d - 1) 41, fun i hi => ?_, aErr_s hp ?_⟩
            · refine ⟨(a.2.2.2.1 i hi).1, ?_⟩
              show wSet (pPut W n (nI (x p)) 0) 2 (q (d - 1)) (nI n) 0 (q i) = 40 ∨ wSet (pPut W n (nI (x p)) 0) 2 (q (d - 1)) (nI n) 0 (q i) = 123
              rw [wSet_k (by decide)]
              exact (a.2.2.2.1 i hi).2
            · show awSet aw (d - 1) 41 i = awOf (wSet (pPut W n (nI (x p)) 0) 2 (q (d - 1)) (nI n)) (q i)
              have hi : i < d := hi
              by_cases e : i = d - 1
              · subst e
                rw [awS_eq]
                unfold awOf
                rw [wSet_k (by decide), pPut_ne 0 (by omega), hc.2.1, wSet_eq, if_neg (by decide), if_neg (nI_n9 (by omega))]
              · have := g5 i (d - 1) (by omega) (by omega)
                have e2 : awOf (wSet (pPut W n (nI (x p)) 0) 2 (q (d - 1)) (nI n)) (q i) = awOf W (q i) := by
                  unfold awOf
                  rw [wSet_ne (by omega), wSet_ne (by omega), pPut_ne 0 (by omega), pPut_ne 2 (by omega)]
                rw [awS_ne e, e2]; exact ha i hi
            · rw [aStep_4]; unfold aTok
              have e1 : aw (d - 1) = 124 := by
                rw [ha (d - 1) (by omega)]; unfold awOf
                rw [hc.2.1, if_neg (by decide), if_pos hc.2.2]
              rw [if_neg (by omega), if_neg (by omega), if_neg c1, if_neg (by omega), if_neg (by omega), if_pos c3, if_pos ⟨hc.1, e1⟩]
          · rw [if_neg hc] at hs; cases hs
        · rw [if_neg c3] at hs
          have clo : ∀ (W' : Nat → Row), 0 < d → (∀ i, i < d - 1 → W' 0 (q i) = W 0 (q i) ∧ W' 2 (q i) = W 2 (q i)) → aw (d - 1) = x p → (x p = 41 ∨ x p = 125) → p < p + 1 ∧ PI0 L (p + 1, n + 1, d - 1, q, awSet dp (n + 1) (d - 1), W') ∧ ∃ aw', AWR (p + 1, n + 1, d - 1, q, awSet dp (n + 1) (d - 1), W') aw' ∧ aErr x (L - p) p (4, vr, tr, d, aw) = aErr x (L - (p + 1)) (p + 1) (4, vr, tr, d - 1, aw') := by
            intro W' hd hW e1 c
            refine ⟨Nat.lt_succ_self p, ⟨by show p + 1 ≤ L; omega, by show n + 1 ≤ p + 1; omega, by show d - 1 ≤ 3; omega, fun i hi => ?_, fun i j hij hj => g5 i j hij (by have hj : j < d - 1 := hj; omega)⟩, aw, fun i hi => ?_, aErr_s hp ?_⟩
            · have hi : i < d - 1 := hi
              have := g4 i (by omega)
              refine ⟨by show q i < n + 1; omega, ?_⟩
              show W' 0 (q i) = 40 ∨ W' 0 (q i) = 123
              rw [(hW i hi).1]; exact this.2
            · have hi : i < d - 1 := hi
              show aw i = awOf W' (q i)
              rw [ha i (by omega)]
              unfold awOf
              rw [(hW i hi).1, (hW i hi).2]
            · rw [aStep_4]; unfold aTok
              rw [if_neg (by omega), if_neg (by omega), if_neg c1, if_neg (by omega), if_neg (by omega), if_neg c3, if_pos c, if_pos ⟨hd, e1⟩]
          by_cases c4 : x p = 41
          · rw [if_pos c4] at hs
            by_cases hc : 0 < d ∧ W 0 (q (d - 1)) = 40 ∧ ¬ W 2 (q (d - 1)) = -9
            · rw [if_pos hc] at hs
              cases hs
              refine clo _ hc.1 (fun i hi => ?_) ?_ (Or.inl c4)
              · have := g4 i (by omega)
                rw [wSet_k (by decide), wSet_k (by decide), wSet_k (by decide), wSet_k (by decide), pPut_ne 0 (by omega), pPut_ne 2 (by omega)]
                exact ⟨rfl, rfl⟩
              · rw [ha (d - 1) (by omega)]; unfold awOf
                rw [hc.2.1, if_neg (by decide), if_neg hc.2.2, c4]
            · rw [if_neg hc] at hs; cases hs
          · rw [if_neg c4] at hs
            by_cases c5 : x p = 125
            · rw [if_pos c5] at hs
              by_cases hc : 0 < d ∧ W 0 (q (d - 1)) = 123
              · rw [if_pos hc] at hs
                cases hs
                refine clo _ hc.1 (fun i hi => ?_) ?_ (Or.inr c5)
                · have := g4 i (by omega)
                  rw [wSet_k (by decide), wSet_k (by decide), pPut_ne 0 (by omega), pPut_ne 2 (by omega)]
                  exact ⟨rfl, rfl⟩
                · rw [ha (d - 1) (by omega)]; unfold awOf
                  rw [hc.2, if_pos rfl, c5]
              · rw [if_neg hc] at hs; cases hs
            · rw [if_neg c5] at hs
              by_cases c6 : x p = 114 ∨ x p = 119
              · rw [if_pos c6] at hs
                by_cases hc : p + 1 < L ∧ 48 ≤ x (p + 1) ∧ x (p + 1) ≤ 48 + 5
                · rw [if_pos hc] at hs
                  cases hs
                  obtain ⟨a, b⟩ := plain (p + 2) (nI (x p)) (nI (x (p + 1) - 48)) (by omega) (by omega)
                  refine ⟨by show p < p + 2; omega, a, aw, b, (aErr_s hp (s' := (5, vr, tr, d, aw)) ?_).trans ((aErr_two (Or.inl ⟨rfl, rfl⟩) (by omega)).1 hc)⟩
                  rw [aStep_4]; unfold aTok; rw [if_pos c6]
                · rw [if_neg hc] at hs; cases hs
              · rw [if_neg c6] at hs
                by_cases c7 : x p = 43 ∨ x p = 45 ∨ x p = 63
                · rw [if_pos c7] at hs
                  by_cases hc : p + 1 < L ∧ 48 ≤ x (p + 1) ∧ x (p + 1) ≤ 48 + 9
                  · rw [if_pos hc] at hs
                    cases hs
                    obtain ⟨a, b⟩ := plain (p + 2) (nI (x p)) (nI (x (p + 1) - 48)) (by omega) (by omega)
                    refine ⟨by show p < p + 2; omega, a, aw, b, (aErr_s hp (s' := (6, vr, tr, d, aw)) ?_).trans ((aErr_two (Or.inr ⟨rfl, rfl⟩) (by omega)).1 hc)⟩
                    rw [aStep_4]; unfold aTok; rw [if_neg c6, if_pos c7]
                  · rw [if_neg hc] at hs; cases hs
                · rw [if_neg c7] at hs; cases hs
  · rw [if_neg hp] at hs; cases hs
theorem t_none {x : Nat → Nat} {L vr tr : Nat} {S : PQ} {aw : Nat → Nat} (h : PI0 L S) (ha : AWR S aw) (hp : S.1 < L) (hs : tStep L x S = none) :
    (x S.1 = 46 → S.2.2.1 = 0 → aErr x (L - S.1) S.1 (4, vr, tr, S.2.2.1, aw) = aErr x (L - (S.1 + 1)) (S.1 + 1) (2, vr, tr + 1, 0, aw)) ∧ (¬ (x S.1 = 46 ∧ S.2.2.1 = 0) → aErr x (L - S.1) S.1 (4, vr, tr, S.2.2.1, aw) = nI (S.1 + pTw (x S.1))) := by
  obtain ⟨p, n, d, q, dp, W⟩ := S
  have g3 : d ≤ 3 := h.2.2.1
  have g4 : ∀ i, i < d → q i < n ∧ (W 0 (q i) = 40 ∨ W 0 (q i) = 123) := h.2.2.2.1
  have ha : ∀ i, i < d → aw i = awOf W (q i) := ha
  have hp : p < L := hp
  have hs : tStep L x (p, n, d, q, dp, W) = none := hs
  show (x p = 46 → d = 0 → aErr x (L - p) p (4, vr, tr, d, aw) = aErr x (L - (p + 1)) (p + 1) (2, vr, tr + 1, 0, aw)) ∧ (¬ (x p = 46 ∧ d = 0) → aErr x (L - p) p (4, vr, tr, d, aw) = nI (p + pTw (x p)))
  refine ⟨fun c1 c2 => aErr_s hp ?_, fun hnd => ?_⟩
  · rw [aStep_4]; unfold aTok
    rw [if_neg (by omega), if_neg (by omega), if_neg (by omega), if_neg (by omega), if_neg (by omega), if_neg (by omega), if_neg (by omega), if_pos c1, if_pos c2]
  · rw [tStep_def] at hs
    rw [if_pos hp] at hs
    have none_ : pTw (x p) = 0 → aTok vr tr d aw (x p) = none → aErr x (L - p) p (4, vr, tr, d, aw) = nI (p + pTw (x p)) := by
      intro a b
      rw [a]
      exact aErr_n hp (by rw [aStep_4]; exact b)
    by_cases c1 : x p = 33 ∨ x p = 120
    · rw [if_pos c1] at hs; cases hs
    · rw [if_neg c1] at hs
      by_cases c2 : x p = 40 ∨ x p = 123
      · rw [if_pos c2] at hs
        by_cases hd : d < 3
        · rw [if_pos hd] at hs; cases hs
        · refine none_ (if_neg (by omega)) ?_
          unfold aTok
          rw [if_neg (by omega), if_neg (by omega), if_neg c1]
          rcases c2 with c | c
          · rw [if_pos c, if_neg hd]
          · rw [if_neg (by omega), if_pos c, if_neg hd]
      · rw [if_neg c2] at hs
        by_cases c3 : x p = 124
        · rw [if_pos c3] at hs
          by_cases hc : 0 < d ∧ W 0 (q (d - 1)) = 40 ∧ W 2 (q (d - 1)) = -9
          · rw [if_pos hc] at hs; cases hs
          · refine none_ (if_neg (by omega)) ?_
            unfold aTok
            rw [if_neg (by omega), if_neg (by omega), if_neg c1, if_neg (by omega), if_neg (by omega), if_pos c3, if_neg]
            intro ⟨z1, z2⟩
            rw [ha (d - 1) (by omega)] at z2
            unfold awOf at z2
            have := (g4 (d - 1) (by omega)).2
            by_cases e1 : W 0 (q (d - 1)) = 123
            · rw [if_pos e1] at z2; omega
            · rw [if_neg e1] at z2
              by_cases e2 : W 2 (q (d - 1)) = -9
              · exact hc ⟨z1, this.resolve_right e1, e2⟩
              · rw [if_neg e2] at z2; omega
        · rw [if_neg c3] at hs
          by_cases c4 : x p = 41
          · rw [if_pos c4] at hs
            by_cases hc : 0 < d ∧ W 0 (q (d - 1)) = 40 ∧ ¬ W 2 (q (d - 1)) = -9
            · rw [if_pos hc] at hs; cases hs
            · refine none_ (if_neg (by omega)) ?_
              unfold aTok
              rw [if_neg (by omega), if_neg (by omega), if_neg c1, if_neg (by omega), if_neg (by omega), if_neg c3, if_pos (Or.inl c4), if_neg]
              intro ⟨z1, z2⟩
              rw [ha (d - 1) (by omega)] at z2
              unfold awOf at z2
              have := (g4 (d - 1) (by omega)).2
              by_cases e1 : W 0 (q (d - 1)) = 123
              · rw [if_pos e1] at z2; omega
              · rw [if_neg e1] at z2
                by_cases e2 : W 2 (q (d - 1)) = -9
                · rw [if_pos e2] at z2; omega
                · exact hc ⟨z1, this.resolve_right e1, e2⟩
          · rw [if_neg c4] at hs
            by_cases c5 : x p = 125
            · rw [if_pos c5] at hs
              by_cases hc : 0 < d ∧ W 0 (q (d - 1)) = 123
              · rw [if_pos hc] at hs; cases hs
              · refine none_ (if_neg (by omega)) ?_
                unfold aTok
                rw [if_neg (by omega), if_neg (by omega), if_neg c1, if_neg (by omega), if_neg (by omega), if_neg c3, if_pos (Or.inr c5), if_neg]
                intro ⟨z1, z2⟩
                rw [ha (d - 1) (by omega)] at z2
                unfold awOf at z2
                by_cases e1 : W 0 (q (d - 1)) = 123
                · exact hc ⟨z1, e1⟩
                · rw [if_neg e1] at z2
                  by_cases e2 : W 2 (q (d - 1)) = -9
                  · rw [if_pos e2] at z2; omega
                  · rw [if_neg e2] at z2; omega
            · rw [if_neg c5] at hs
              by_cases c6 : x p = 114 ∨ x p = 119
              · rw [if_pos c6] at hs
                by_cases hc : p + 1 < L ∧ 48 ≤ x (p + 1) ∧ x (p + 1) ≤ 48 + 5
                · rw [if_pos hc] at hs; cases hs
                · rw [show pTw (x p) = 1 from if_pos (by omega)]
                  refine (aErr_s hp (s' := (5, vr, tr, d, aw)) ?_).trans ((aErr_two (Or.inl ⟨rfl, rfl⟩) (by omega)).2 hc)
                  rw [aStep_4]; unfold aTok; rw [if_pos c6]
              · rw [if_neg c6] at hs
                by_cases c7 : x p = 43 ∨ x p = 45 ∨ x p = 63
                · rw [if_pos c7] at hs
                  by_cases hc : p + 1 < L ∧ 48 ≤ x (p + 1) ∧ x (p + 1) ≤ 48 + 9
                  · rw [if_pos hc] at hs; cases hs
                  · rw [show pTw (x p) = 1 from if_pos (by omega)]
                    refine (aErr_s hp (s' := (6, vr, tr, d, aw)) ?_).trans ((aErr_two (Or.inr ⟨rfl, rfl⟩) (by omega)).2 hc)
                    rw [aStep_4]; unfold aTok; rw [if_neg c6, if_pos c7]
                · refine none_ (if_neg (by omega)) ?_
                  unfold aTok
                  rw [if_neg (by omega), if_neg (by omega), if_neg c1, if_neg (by omega), if_neg (by omega), if_neg c3, if_neg (by omega)]
                  by_cases c8 : x p = 46
                  · rw [if_pos c8, if_neg (by omega)]
                  · rw [if_neg c8]
