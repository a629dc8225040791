/-! the structure of a program while it is read -/
def pOp (a : Int32) : Prop := a = 40 ∨ a = 123
def pCl (a : Int32) : Prop := a = 41 ∨ a = 125
def pLet (W : Nat → Row) (j : Nat) : Prop := W 0 j = 33 ∨ W 0 j = 63 ∨ W 0 j = 120 ∨ (W 0 j = 114 ∧ ∃ c : Nat, c < 6 ∧ W 1 j = nI c) ∨ (W 0 j = 119 ∧ ∃ c : Nat, c < 6 ∧ W 1 j = nI c) ∨ W 0 j = 43 ∨ W 0 j = 45 ∨ W 0 j = 40 ∨ W 0 j = 123 ∨ W 0 j = 41 ∨ W 0 j = 125 ∨ W 0 j = 124
def pBar (W : Nat → Row) (dp : Nat → Nat) (n j : Nat) : Prop := W 2 j = -9 ∨ ∃ b : Nat, W 2 j = nI b ∧ j < b ∧ b < n ∧ W 0 j = 40 ∧ W 0 b = 124 ∧ dp b = dp j + 1 ∧ dp (b + 1) = dp j + 1
def pOpened (W : Nat → Row) (dp q : Nat → Nat) (n d j : Nat) : Prop := dp (j + 1) = dp j + 1 ∧
  (∀ i, i < d → q i = j → ∀ r, j < r → r ≤ n → dp j + 1 ≤ dp r) ∧
  ((∀ i, i < d → ¬ q i = j) → ∃ c : Nat, W 3 j = nI c ∧ j < c ∧ c < n ∧ dp c = dp j + 1 ∧ dp (c + 1) = dp j ∧ pCl (W 0 c) ∧ (W 0 j = 40 → ∃ b : Nat, W 2 j = nI b ∧ b < c) ∧ ∀ r, j < r → r ≤ c → dp j + 1 ≤ dp r)
def pParted (W : Nat → Row) (dp q : Nat → Nat) (n d j : Nat) : Prop := dp (j + 1) = dp j ∧
  (∀ i, i < d → W 2 (q i) = nI j → ∀ r, j < r → r ≤ n → dp j ≤ dp r) ∧
  ((∀ i, i < d → ¬ W 2 (q i) = nI j) → ∃ c : Nat, W 3 j = nI c ∧ j < c ∧ c < n ∧ dp (c + 1) + 1 = dp j ∧ ∀ r, j < r → r ≤ c → dp j ≤ dp r)
def PJ (S : PQ) : Prop := match S with
  | (_, n, d, q, dp, W) => dp 0 = 0 ∧ dp n = d ∧ (∀ j, j ≤ n → dp j ≤ 3) ∧ (∀ i, i < d → dp (q i) = i) ∧ ∀ j, j < n → pLet W j ∧ pBar W dp n j ∧ (pOp (W 0 j) → pOpened W dp q n d j) ∧ (W 0 j = 124 → pParted W dp q n d j) ∧ (pCl (W 0 j) → dp (j + 1) + 1 = dp j) ∧ (¬ (pOp (W 0 j) ∨ pCl (W 0 j)) → dp (j + 1) = dp j)
theorem pj_n (a : Nat) (h : a < 256) (b : Nat) (hb : b < 256) : (nI a = (nI b)) ↔ a = b := cmp_eq (by omega) (by omega)
/-- a token that opens, parts and closes nothing -/
theorem PJ_plain {p p' n d : Nat} {q dp : Nat → Nat} {W : Nat → Row} {c e : Int32} (hn : n < 2 ^ 30) (hd : d ≤ 3) (hq : ∀ i, i < d → q i < n ∧ (W 0 (q i) = 40 ∨ W 0 (q i) = 123)) (h : PJ (p, n, d, q, dp, W)) (h1 : pLet (pPut W n c e) n) (h2 : ¬ pOp c) (h3 : ¬ pCl c) (h4 : ¬ c = 124) : PJ (p', n + 1, d, q, awSet dp (n + 1) d, pPut W n c e) := by
  obtain ⟨g1, g2, g3, g4, g5⟩ := h
  have dlt : ∀ j, j ≤ n → awSet dp (n + 1) d j = dp j := fun j hj => awS_ne (by omega)
  refine ⟨by rw [dlt 0 (by omega)]; exact g1, awS_eq, fun j hj => ?_, fun i hi => by rw [dlt _ (by have := (hq i hi).1; omega)]; exact g4 i hi, fun j hj => ?_⟩
  · by_cases e : j = n + 1
    · subst e; rw [awS_eq]; exact hd
    · rw [awS_ne e]; exact g3 j (by omega)
  · by_cases ej : j = n
    · subst ej
      refine ⟨h1, Or.inl pPut_2, fun z => absurd (by rw [pPut_0] at z; exact z) h2, fun z => absurd (by rw [pPut_0] at z; exact z) h4, fun z => absurd (by rw [pPut_0] at z; exact z) h3, fun _ => by rw [awS_eq, dlt j (Nat.le_refl _)]; exact g2.symm⟩
    · have hj : j < n := by omega
      obtain ⟨a1, a2, a3, a4, a5, a6⟩ := g5 j hj
      have w : ∀ k i, i < n → pPut W n c e k i = W k i := fun k i hi => pPut_ne k (by omega)
      have dj : awSet dp (n + 1) d j = dp j := dlt j (by omega)
      have dj1 : awSet dp (n + 1) d (j + 1) = dp (j + 1) := dlt _ (by omega)
      refine ⟨?_, ?_, fun z => ?_, fun z => ?_, fun z => ?_, fun z => ?_⟩
      · unfold pLet at a1 ⊢; rw [w 0 j hj, w 1 j hj]; exact a1
      · rcases a2 with a2 | ⟨b, b1, b2, b3, b4, b5, b6, b7⟩
        · exact Or.inl (by rw [w 2 j hj]; exact a2)
        · exact Or.inr ⟨b, by rw [w 2 j hj]; exact b1, b2, by omega, by rw [w 0 j hj]; exact b4, by rw [w 0 b b3]; exact b5, by rw [dlt b (by omega), dj]; exact b6, by rw [dlt _ (by omega), dj]; exact b7⟩
      · rw [w 0 j hj] at z
        obtain ⟨o1, o2, o3⟩ := a3 z
        refine ⟨by rw [dj, dj1]; exact o1, fun i hi hij r r1 r2 => ?_, fun hno => ?_⟩
        · rw [dj]
          by_cases er : r = n + 1
          · subst er; rw [awS_eq]
            have := g4 i hi
            rw [hij] at this
            omega
          · rw [dlt r (by omega)]; exact o2 i hi hij r r1 (by omega)
        · obtain ⟨k, k1, k2, k3, k4, k5, k6, k7, k8⟩ := o3 hno
          exact ⟨k, by rw [w 3 j hj]; exact k1, k2, by omega, by rw [dlt k (by omega), dj]; exact k4, by rw [dlt _ (by omega), dj]; exact k5, by rw [w 0 k k3]; exact k6, fun y => by rw [w 0 j hj] at y; rw [w 2 j hj]; exact k7 y, fun r r1 r2 => by rw [dj, dlt r (by omega)]; exact k8 r r1 r2⟩
      · rw [w 0 j hj] at z
        obtain ⟨o1, o2, o3⟩ := a4 z
        refine ⟨by rw [dj, dj1]; exact o1, fun i hi hij r r1 r2 => ?_, fun hno => ?_⟩
        · have hqi := (hq i hi).1
          rw [w 2 _ hqi] at hij
          rw [dj]
          by_cases er : r = n + 1
          · subst er; rw [awS_eq]
            have h5 := (g5 _ hqi).2.1
            rcases h5 with h5 | ⟨b, b1, b2, b3, b4, b5, b6, b7⟩
            · rw [h5] at hij; exact absurd hij.symm (nI_n9 (by omega))
            · rw [b1] at hij
              have : b = j := (cmp_eq (by omega) (by omega)).mp hij
              subst this
              rw [b6, g4 i hi]; omega
          · rw [dlt r (by omega)]; exact o2 i hi hij r r1 (by omega)
        · obtain ⟨k, k1, k2, k3, k4, k5⟩ := o3 (fun i hi y => hno i hi (by rw [w 2 _ (hq i hi).1]; exact y))
          exact ⟨k, by rw [w 3 j hj]; exact k1, k2, by omega, by rw [dlt _ (by omega), dj]; exact k4, fun r r1 r2 => by rw [dj, dlt r (by omega)]; exact k5 r r1 r2⟩
      · rw [w 0 j hj] at z; rw [dj, dj1]; exact a5 z
      · rw [w 0 j hj] at z; rw [dj, dj1]; exact a6 z
/-- a token that opens -/
theorem PJ_open {p p' n d : Nat} {q dp : Nat → Nat} {W : Nat → Row} {c e : Int32} (hn : n < 2 ^ 30) (hd : d < 3) (hq : ∀ i, i < d → q i < n ∧ (W 0 (q i) = 40 ∨ W 0 (q i) = 123)) (h : PJ (p, n, d, q, dp, W)) (h1 : pOp c) : PJ (p', n + 1, d + 1, awSet q d n, awSet dp (n + 1) (d + 1), pPut W n c e) := by
  obtain ⟨g1, g2, g3, g4, g5⟩ := h
  have dlt : ∀ j, j ≤ n → awSet dp (n + 1) (d + 1) j = dp j := fun j hj => awS_ne (by omega)
  refine ⟨by rw [dlt 0 (by omega)]; exact g1, awS_eq, fun j hj => ?_, fun i hi => ?_, fun j hj => ?_⟩
  · by_cases e : j = n + 1
    · subst e; rw [awS_eq]; omega
    · rw [awS_ne e]; exact g3 j (by omega)
  · by_cases e : i = d
    · subst e; rw [awS_eq, dlt n (Nat.le_refl _)]; exact g2
    · have := (hq i (by omega)).1
      rw [awS_ne e, dlt _ (by omega)]; exact g4 i (by omega)
  · by_cases ej : j = n
    · subst ej
      have n124 : ¬ c = 124 := by rcases h1 with z | z <;> rw [z] <;> decide
      have ncl : ¬ pCl c := by
        unfold pCl
        rcases h1 with z | z <;> rw [z] <;> decide
      refine ⟨?_, Or.inl pPut_2, fun z => ⟨by rw [awS_eq, dlt j (Nat.le_refl _), g2], fun i hi hij r r1 r2 => ?_, fun hno => absurd awS_eq (hno d (by omega))⟩, fun z => absurd (by rw [pPut_0] at z; exact z) n124, fun z => absurd (by rw [pPut_0] at z; exact z) ncl, fun z => absurd (Or.inl (by rw [pPut_0]; exact h1)) z⟩
      · unfold pLet
        rw [pPut_0]
        rcases h1 with z | z <;> simp [z]
      · have : r = j + 1 := by omega
        subst this
        rw [awS_eq, dlt j (Nat.le_refl _), g2]; omega
    · have hj : j < n := by omega
      obtain ⟨a1, a2, a3, a4, a5, a6⟩ := g5 j hj
      have w : ∀ k i, i < n → pPut W n c e k i = W k i := fun k i hi => pPut_ne k (by omega)
      have dj : awSet dp (n + 1) (d + 1) j = dp j := dlt j (by omega)
      have dj1 : awSet dp (n + 1) (d + 1) (j + 1) = dp (j + 1) := dlt _ (by omega)
      refine ⟨?_, ?_, fun z => ?_, fun z => ?_, fun z => ?_, fun z => ?_⟩
      · unfold pLet at a1 ⊢; rw [w 0 j hj, w 1 j hj]; exact a1
      · rcases a2 with a2 | ⟨b, b1, b2, b3, b4, b5, b6, b7⟩
        · exact Or.inl (by rw [w 2 j hj]; exact a2)
        · exact Or.inr ⟨b, by rw [w 2 j hj]; exact b1, b2, by omega, by rw [w 0 j hj]; exact b4, by rw [w 0 b b3]; exact b5, by rw [dlt b (by omega), dj]; exact b6, by rw [dlt _ (by omega), dj]; exact b7⟩
      · rw [w 0 j hj] at z
        obtain ⟨o1, o2, o3⟩ := a3 z
        refine ⟨by rw [dj, dj1]; exact o1, fun i hi hij r r1 r2 => ?_, fun hno => ?_⟩
        · have hid : i < d := by
            by_cases e2 : i = d
            · subst e2; rw [awS_eq] at hij; omega
            · omega
          rw [awS_ne (by omega)] at hij
          rw [dj]
          by_cases er : r = n + 1
          · subst er; rw [awS_eq]
            have := g4 i hid
            rw [hij] at this
            omega
          · rw [dlt r (by omega)]; exact o2 i hid hij r r1 (by omega)
        · obtain ⟨k, k1, k2, k3, k4, k5, k6, k7, k8⟩ := o3 (fun i hi y => hno i (by omega) (by rw [awS_ne (by omega)]; exact y))
          exact ⟨k, by rw [w 3 j hj]; exact k1, k2, by omega, by rw [dlt k (by omega), dj]; exact k4, by rw [dlt _ (by omega), dj]; exact k5, by rw [w 0 k k3]; exact k6, fun y => by rw [w 0 j hj] at y; rw [w 2 j hj]; exact k7 y, fun r r1 r2 => by rw [dj, dlt r (by omega)]; exact k8 r r1 r2⟩
      · rw [w 0 j hj] at z
        obtain ⟨o1, o2, o3⟩ := a4 z
        refine ⟨by rw [dj, dj1]; exact o1, fun i hi hij r r1 r2 => ?_, fun hno => ?_⟩
        · have hid : i < d := by
            by_cases e2 : i = d
            · subst e2; rw [awS_eq, pPut_2] at hij; exact absurd hij.symm (nI_n9 (by omega))
            · omega
          have hqi := (hq i hid).1
          rw [awS_ne (by omega), w 2 _ hqi] at hij
          rw [dj]
          by_cases er : r = n + 1
          · subst er; rw [awS_eq]
            have h5 := (g5 _ hqi).2.1
            rcases h5 with h5 | ⟨b, b1, b2, b3, b4, b5, b6, b7⟩
            · rw [h5] at hij; exact absurd hij.symm (nI_n9 (by omega))
            · rw [b1] at hij
              have : b = j := (cmp_eq (by omega) (by omega)).mp hij
              subst this
              rw [b6, g4 i hid]; omega
          · rw [dlt r (by omega)]; exact o2 i hid hij r r1 (by omega)
        · obtain ⟨k, k1, k2, k3, k4, k5⟩ := o3 (fun i hi y => hno i (by omega) (by rw [awS_ne (by omega), w 2 _ (hq i hi).1]; exact y))
          exact ⟨k, by rw [w 3 j hj]; exact k1, k2, by omega, by rw [dlt _ (by omega), dj]; exact k4, fun r r1 r2 => by rw [dj, dlt r (by omega)]; exact k5 r r1 r2⟩
      · rw [w 0 j hj] at z; rw [dj, dj1]; exact a5 z
      · rw [w 0 j hj] at z; rw [dj, dj1]; exact a6 z
