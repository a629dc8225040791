/-- a token that parts -/
theorem PJ_part {p p' n d : Nat} {q dp : Nat → Nat} {W : Nat → Row} {e : Int32} (hn : n < 2 ^ 30) (hd : d ≤ 3) (hd0 : 0 < d) (hq : ∀ i, i < d → q i < n ∧ (W 0 (q i) = 40 ∨ W 0 (q i) = 123)) (hqq : ∀ i j, i < j → j < d → q i < q j) (h : PJ (p, n, d, q, dp, W)) (h1 : W 0 (q (d - 1)) = 40) (h2 : W 2 (q (d - 1)) = -9) : PJ (p', n + 1, d, q, awSet dp (n + 1) d, wSet (pPut W n 124 e) 2 (q (d - 1)) (nI n)) := by
  obtain ⟨g1, g2, g3, g4, g5⟩ := h
  have dlt : ∀ j, j ≤ n → awSet dp (n + 1) d j = dp j := fun j hj => awS_ne (by omega)
  have hf := (hq (d - 1) (by omega)).1
  generalize hW : wSet (pPut W n 124 e) 2 (q (d - 1)) (nI n) = W'
  have w : ∀ k i, i < n → (k ≠ 2 ∨ i ≠ q (d - 1)) → W' k i = W k i := fun k i hi hk => by
    rw [← hW]
    rcases hk with z | z
    · rw [wSet_k z, pPut_ne k (by omega)]
    · rw [wSet_ne z, pPut_ne k (by omega)]
  have wn : ∀ k, W' k n = pPut W n 124 e k n := fun k => by rw [← hW, wSet_ne (by omega)]
  have wf : W' 2 (q (d - 1)) = nI n := by rw [← hW, wSet_eq]
  have wq : ∀ i, i < d → i ≠ d - 1 → W' 2 (q i) = W 2 (q i) := fun i hi hne => by
    have := hqq i (d - 1) (by omega) (by omega)
    exact w 2 _ (hq i hi).1 (Or.inr (by omega))
  refine ⟨by rw [dlt 0 (by omega)]; exact g1, awS_eq, fun j hj => ?_, fun i hi => by rw [dlt _ (by have := (hq i hi).1; omega)]; exact g4 i hi, fun j hj => ?_⟩
  · by_cases e : j = n + 1
    · subst e; rw [awS_eq]; exact hd
    · rw [awS_ne e]; exact g3 j (by omega)
  · by_cases ej : j = n
    · subst ej
      have w0 : W' 0 j = 124 := by rw [wn, pPut_0]
      refine ⟨?_, Or.inl (by rw [wn, pPut_2]), fun z => ?_, fun z => ⟨?_, fun i hi hij r r1 r2 => ?_, fun hno => absurd wf (hno (d - 1) (by omega))⟩, fun z => ?_, fun z => ?_⟩
      · unfold pLet; rw [w0]; simp
      · rw [w0] at z; unfold pOp at z; exact absurd z (by decide)
      · rw [awS_eq, dlt j (Nat.le_refl _)]; exact g2.symm
      · have : r = j + 1 := by omega
        subst this
        rw [awS_eq, dlt j (Nat.le_refl _)]; omega
      · rw [w0] at z; unfold pCl at z; exact absurd z (by decide)
      · rw [awS_eq, dlt j (Nat.le_refl _)]; exact g2.symm
    · have hj : j < n := by omega
      obtain ⟨a1, a2, a3, a4, a5, a6⟩ := g5 j hj
      have w0 : W' 0 j = W 0 j := w 0 j hj (Or.inl (by decide))
      have w1 : W' 1 j = W 1 j := w 1 j hj (Or.inl (by decide))
      have w3 : W' 3 j = W 3 j := w 3 j hj (Or.inl (by decide))
      have dj : awSet dp (n + 1) d j = dp j := dlt j (by omega)
      have dj1 : awSet dp (n + 1) d (j + 1) = dp (j + 1) := dlt _ (by omega)
      refine ⟨?_, ?_, fun z => ?_, fun z => ?_, fun z => ?_, fun z => ?_⟩
      · unfold pLet at a1 ⊢; rw [w0, w1]; exact a1
      · by_cases ejf : j = q (d - 1)
        · subst ejf
          have g4f := g4 (d - 1) (by omega)
          exact Or.inr ⟨n, wf, hj, by omega, by rw [w0]; exact h1, by rw [wn, pPut_0], by rw [dlt n (Nat.le_refl _), dj, g2, g4f]; omega, by rw [awS_eq, dj, g4f]; omega⟩
        · rcases a2 with a2 | ⟨b, b1, b2, b3, b4, b5, b6, b7⟩
          · exact Or.inl (by rw [w 2 j hj (Or.inr ejf)]; exact a2)
          · exact Or.inr ⟨b, by rw [w 2 j hj (Or.inr ejf)]; exact b1, b2, by omega, by rw [w0]; exact b4, by rw [w 0 b b3 (Or.inl (by decide))]; exact b5, by rw [dlt b (by omega), dj]; exact b6, by rw [dlt _ (by omega), dj]; exact b7⟩
      · rw [w0] at z
        obtain ⟨o1, o2, o3⟩ := a3 z
        refine ⟨by rw [dj, dj1]; exact o1, fun i hi hij r r1 r2 => ?_, fun hno => ?_⟩
        · rw [dj]
          by_cases er : r = n + 1
          · subst er; rw [awS_eq]
            have := g4 i hi
            rw [hij] at this
            omega
          · rw [dlt r (by omega)]; exact o2 i hi hij r r1 (by omega)
        · obtain ⟨k, k1, k2, k3, k4, k5, k6, k7, k8⟩ := o3 hno
          have ejf : j ≠ q (d - 1) := fun y => hno (d - 1) (by omega) y.symm
          exact ⟨k, by rw [w3]; exact k1, k2, by omega, by rw [dlt k (by omega), dj]; exact k4, by rw [dlt _ (by omega), dj]; exact k5, by rw [w 0 k k3 (Or.inl (by decide))]; exact k6, fun y => by rw [w0] at y; rw [w 2 j hj (Or.inr ejf)]; exact k7 y, fun r r1 r2 => by rw [dj, dlt r (by omega)]; exact k8 r r1 r2⟩
      · rw [w0] at z
        obtain ⟨o1, o2, o3⟩ := a4 z
        refine ⟨by rw [dj, dj1]; exact o1, fun i hi hij r r1 r2 => ?_, fun hno => ?_⟩
        · have hid : i ≠ d - 1 := by
            intro y
            subst y
            rw [wf] at hij
            have := (cmp_eq (by omega) (by omega)).mp hij
            omega
          have hqi := (hq i hi).1
          rw [wq i hi hid] at hij
          rw [dj]
          by_cases er : r = n + 1
          · subst er; rw [awS_eq]
            have h5 := (g5 _ hqi).2.1
            rcases h5 with h5 | ⟨b, b1, b2, b3, b4, b5, b6, b7⟩
            · rw [h5] at hij; exact absurd hij.symm (nI_n9 (by omega))
            · rw [b1] at hij
              have : b = j := (cmp_eq (by omega) (by omega)).mp hij
              subst this
              rw [b6, g4 i hi]; omega
          · rw [dlt r (by omega)]; exact o2 i hi hij r r1 (by omega)
        · obtain ⟨k, k1, k2, k3, k4, k5⟩ := o3 (fun i hi y => by
            by_cases hid : i = d - 1
            · subst hid; rw [h2] at y; exact absurd y.symm (nI_n9 (by omega))
            · exact hno i hi (by rw [wq i hi hid]; exact y))
          exact ⟨k, by rw [w3]; exact k1, k2, by omega, by rw [dlt _ (by omega), dj]; exact k4, fun r r1 r2 => by rw [dj, dlt r (by omega)]; exact k5 r r1 r2⟩
      · rw [w0] at z; rw [dj, dj1]; exact a5 z
      · rw [w0] at z; rw [dj, dj1]; exact a6 z
/-- a token that closes -/
theorem PJ_close {p p' n d : Nat} {q dp : Nat → Nat} {W W' : Nat → Row} {c e : Int32} (hn : n < 2 ^ 30) (hd : d ≤ 3) (hd0 : 0 < d) (hq : ∀ i, i < d → q i < n ∧ (W 0 (q i) = 40 ∨ W 0 (q i) = 123)) (hqq : ∀ i j, i < j → j < d → q i < q j) (h : PJ (p, n, d, q, dp, W)) (hc : pCl c)
    (h1 : ∀ k, k ≠ 3 → W' k = pPut W n c e k) (h2 : W' 3 (q (d - 1)) = nI n) (h3 : ∀ b, b < n → W 2 (q (d - 1)) = nI b → W' 3 b = nI n) (h4 : ∀ i, i < n → i ≠ q (d - 1) → ¬ W 2 (q (d - 1)) = nI i → W' 3 i = W 3 i) (h5 : W 0 (q (d - 1)) = 40 → ¬ W 2 (q (d - 1)) = -9) : PJ (p', n + 1, d - 1, q, awSet dp (n + 1) (d - 1), W') := by
  obtain ⟨g1, g2, g3, g4, g5⟩ := h
  have dlt : ∀ j, j ≤ n → awSet dp (n + 1) (d - 1) j = dp j := fun j hj => awS_ne (by omega)
  obtain ⟨hf, hfl⟩ := hq (d - 1) (by omega)
  have g4f := g4 (d - 1) (by omega)
  have w : ∀ k i, i < n → k ≠ 3 → W' k i = W k i := fun k i hi hk => by rw [h1 k hk, pPut_ne k (by omega)]
  have bf := (g5 _ hf).2.1
  refine ⟨by rw [dlt 0 (by omega)]; exact g1, awS_eq, fun j hj => ?_, fun i hi => by rw [dlt _ (by have := (hq i (by omega)).1; omega)]; exact g4 i (by omega), fun j hj => ?_⟩
  · by_cases e : j = n + 1
    · subst e; rw [awS_eq]; omega
    · rw [awS_ne e]; exact g3 j (by omega)
  · by_cases ej : j = n
    · subst ej
      have w0 : W' 0 j = c := by rw [h1 0 (by decide), pPut_0]
      have nop : ¬ pOp c := by unfold pOp; rcases hc with z | z <;> rw [z] <;> decide
      have n124 : ¬ c = 124 := by rcases hc with z | z <;> rw [z] <;> decide
      refine ⟨?_, Or.inl (by rw [h1 2 (by decide), pPut_2]), fun z => ?_, fun z => ?_, fun z => ?_, fun z => ?_⟩
      · unfold pLet; rw [w0]; rcases hc with z | z <;> simp [z]
      · rw [w0] at z; exact absurd z nop
      · rw [w0] at z; exact absurd z n124
      · rw [awS_eq, dlt j (Nat.le_refl _), g2]; omega
      · rw [w0] at z; exact absurd (Or.inr hc) z
    · have hj : j < n := by omega
      obtain ⟨a1, a2, a3, a4, a5, a6⟩ := g5 j hj
      have w0 : W' 0 j = W 0 j := w 0 j hj (by decide)
      have w1 : W' 1 j = W 1 j := w 1 j hj (by decide)
      have w2 : W' 2 j = W 2 j := w 2 j hj (by decide)
      have dj : awSet dp (n + 1) (d - 1) j = dp j := dlt j (by omega)
      have dj1 : awSet dp (n + 1) (d - 1) (j + 1) = dp (j + 1) := dlt _ (by omega)
      refine ⟨?_, ?_, fun z => ?_, fun z => ?_, fun z => ?_, fun z => ?_⟩
      · unfold pLet at a1 ⊢; rw [w0, w1]; exact a1
      · rcases a2 with a2 | ⟨b, b1, b2, b3, b4, b5, b6, b7⟩
        · exact Or.inl (by rw [w2]; exact a2)
        · exact Or.inr ⟨b, by rw [w2]; exact b1, b2, by omega, by rw [w0]; exact b4, by rw [w 0 b b3 (by decide)]; exact b5, by rw [dlt b (by omega), dj]; exact b6, by rw [dlt _ (by omega), dj]; exact b7⟩
      · rw [w0] at z
        obtain ⟨o1, o2, o3⟩ := a3 z
        refine ⟨by rw [dj, dj1]; exact o1, fun i hi hij r r1 r2 => ?_, fun hno => ?_⟩
        · rw [dj]
          by_cases er : r = n + 1
          · subst er; rw [awS_eq]
            have := g4 i (by omega)
            rw [hij] at this
            omega
          · rw [dlt r (by omega)]; exact o2 i (by omega) hij r r1 (by omega)
        · by_cases ejf : j = q (d - 1)
          · subst ejf
            refine ⟨n, h2, hj, by omega, by rw [dlt n (Nat.le_refl _), dj, g2, g4f]; omega, by rw [awS_eq, dj, g4f], by rw [h1 0 (by decide), pPut_0]; exact hc, fun y => ?_, fun r r1 r2 => ?_⟩
            · rw [w0] at y
              rcases bf with bf | ⟨b, b1, b2, b3, -⟩
              · exact absurd bf (h5 y)
              · exact ⟨b, by rw [w2]; exact b1, b3⟩
            · rw [dj, dlt r (by omega)]; exact o2 (d - 1) (by omega) rfl r r1 r2
          · obtain ⟨k, k1, k2, k3, k4, k5, k6, k7, k8⟩ := o3 (fun i hi y => by
              by_cases hid : i = d - 1
              · subst hid; exact ejf y.symm
              · exact hno i (by omega) y)
            have nb : ¬ W 2 (q (d - 1)) = nI j := by
              intro y
              rcases bf with bf | ⟨b, b1, b2, b3, b4, b5, -⟩
              · rw [bf] at y; exact nI_n9 (by omega) y.symm
              · rw [b1] at y
                have : b = j := (cmp_eq (by omega) (by omega)).mp y
                subst this
                rw [b5] at z
                unfold pOp at z
                exact absurd z (by decide)
            exact ⟨k, by rw [h4 j hj ejf nb]; exact k1, k2, by omega, by rw [dlt k (by omega), dj]; exact k4, by rw [dlt _ (by omega), dj]; exact k5, by rw [w 0 k k3 (by decide)]; exact k6, fun y => by rw [w0] at y; rw [w2]; exact k7 y, fun r r1 r2 => by rw [dj, dlt r (by omega)]; exact k8 r r1 r2⟩
      · rw [w0] at z
        obtain ⟨o1, o2, o3⟩ := a4 z
        refine ⟨by rw [dj, dj1]; exact o1, fun i hi hij r r1 r2 => ?_, fun hno => ?_⟩
        · have hqi := (hq i (by omega)).1
          rw [w 2 _ hqi (by decide)] at hij
          rw [dj]
          by_cases er : r = n + 1
          · subst er; rw [awS_eq]
            rcases (g5 _ hqi).2.1 with y | ⟨b, b1, b2, b3, b4, b5, b6, b7⟩
            · rw [y] at hij; exact absurd hij.symm (nI_n9 (by omega))
            · rw [b1] at hij
              have : b = j := (cmp_eq (by omega) (by omega)).mp hij
              subst this
              rw [b6, g4 i (by omega)]; omega
          · rw [dlt r (by omega)]; exact o2 i (by omega) hij r r1 (by omega)
        · by_cases eb : W 2 (q (d - 1)) = nI j
          · refine ⟨n, h3 j hj eb, hj, by omega, ?_, fun r r1 r2 => ?_⟩
            · rw [awS_eq, dj]
              rcases bf with bf | ⟨b, b1, b2, b3, b4, b5, b6, -⟩
              · rw [bf] at eb; exact absurd eb.symm (nI_n9 (by omega))
              · rw [b1] at eb
                have : b = j := (cmp_eq (by omega) (by omega)).mp eb
                subst this
                rw [b6, g4f]
            · rw [dj, dlt r (by omega)]; exact o2 (d - 1) (by omega) eb r r1 r2
          · obtain ⟨k, k1, k2, k3, k4, k5⟩ := o3 (fun i hi y => by
              by_cases hid : i = d - 1
              · subst hid; exact eb y
              · exact hno i (by omega) (by rw [w 2 _ (hq i hi).1 (by decide)]; exact y))
            have ejf : j ≠ q (d - 1) := fun y => by
              rw [← y, z] at hfl
              exact absurd hfl (by decide)
            exact ⟨k, by rw [h4 j hj ejf eb]; exact k1, k2, by omega, by rw [dlt _ (by omega), dj]; exact k4, fun r r1 r2 => by rw [dj, dlt r (by omega)]; exact k5 r r1 r2⟩
      · rw [w0] at z; rw [dj, dj1]; exact a5 z
      · rw [w0] at z; rw [dj, dj1]; exact a6 z
