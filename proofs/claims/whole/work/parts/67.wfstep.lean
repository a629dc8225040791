/-! the place in the program, step by step -/
def Ends (G : Prg) (t r : Nat) : Prop := G 1026 (60 * t + r) = 41 ∨ G 1026 (60 * t + r) = 125 ∨ G 1026 (60 * t + r) = 124
theorem Op_move {G : Prg} {t n p p' k : Nat} {dp : Nat → Nat} {v v' : Row} (hs : PS G t n dp) (h : Op G t n dp v p k) (hp : p ≤ p') (e0 : v' (rB t k) = v (rB t k)) (e1 : v' (rB t k + 1) = v (rB t k + 1)) (H : ∀ r, p ≤ r → r < n → dp r = k + 1 → Ends G t r → p' ≤ r) : Op G t n dp v' p' k := by
  obtain ⟨q, c, hq, hqp, hd, hcn, hc, hpc, ho⟩ := h
  obtain ⟨n6, -, -, -, -, st⟩ := hs
  obtain ⟨s1, s2, -⟩ := st q (by omega)
  have l2 : G 1026 (60 * t + q) = 40 ∨ G 1026 (60 * t + q) = 123 := by
    rcases ho with z | z
    · exact Or.inr z.1
    · exact Or.inl z.1
  obtain ⟨-, c', hc', h1, h2, h3, h4, h5, h6⟩ := s1 l2
  have ec : c' = c := (cmp_eq (by omega) (by omega)).mp (hc'.symm.trans hc)
  subst ec
  refine ⟨q, c', by rw [e0]; exact hq, by omega, hd, hcn, hc, H c' hpc hcn (by omega) (by rcases h5 with z | z; exact Or.inl z; exact Or.inr (Or.inl z)), ?_⟩
  rcases ho with z | z
  · exact Or.inl ⟨z.1, by rw [e1]; exact z.2⟩
  · refine Or.inr ⟨z.1, fun z0 => ?_⟩
    rw [e1] at z0
    obtain ⟨b, hbn, hb, hpb⟩ := z.2 z0
    obtain ⟨b', c2, hb', -, g1, g2, g6, g3, g4, g5⟩ := s2 z.1
    have eb : b' = b := (cmp_eq (by omega) (by omega)).mp (hb'.symm.trans hb)
    subst eb
    exact ⟨b', hbn, hb, H b' hpb hbn (by omega) (Or.inr (Or.inr g3))⟩
/-- all that is known of an open block -/
theorem Op_facts {G : Prg} {t n p k : Nat} {dp : Nat → Nat} {v : Row} (hs : PS G t n dp) (h : Op G t n dp v p k) : ∃ q c : Nat, v (rB t k) = nI q ∧ rTok v t k = q ∧ q < p ∧ q < n ∧ dp q = k ∧ c < n ∧ q < c ∧ G 1029 (60 * t + q) = nI c ∧ p ≤ c ∧ dp c = k + 1 ∧ dp (c + 1) = k ∧ (∀ r, q < r → r ≤ c → k + 1 ≤ dp r) ∧ ((G 1026 (60 * t + q) = 123 ∧ v (rB t k + 1) = 0) ∨ (G 1026 (60 * t + q) = 40 ∧ ∃ b, G 1028 (60 * t + q) = nI b ∧ q < b ∧ b < c ∧ dp (b + 1) = k + 1 ∧ (v (rB t k + 1) = 0 → p ≤ b))) := by
  obtain ⟨q, c, hq, hqp, hd, hcn, hc, hpc, ho⟩ := h
  obtain ⟨n6, -, -, -, -, st⟩ := hs
  obtain ⟨s1, s2, -⟩ := st q (by omega)
  have l2 : G 1026 (60 * t + q) = 40 ∨ G 1026 (60 * t + q) = 123 := by
    rcases ho with z | z
    · exact Or.inr z.1
    · exact Or.inl z.1
  obtain ⟨-, c', hc', h1, h2, h3, h4, h5, h6⟩ := s1 l2
  have ec : c' = c := (cmp_eq (by omega) (by omega)).mp (hc'.symm.trans hc)
  subst ec
  refine ⟨q, c', hq, by unfold rTok; rw [hq, cl (by omega)], hqp, by omega, hd, hcn, h1, hc, hpc, by omega, by omega, fun r r1 r2 => by have := h6 r r1 r2; omega, ?_⟩
  rcases ho with z | z
  · exact Or.inl z
  · obtain ⟨b', c2, hb', hc2, g1, g2, g6, g3, g4, g5⟩ := s2 z.1
    have ec2 : c2 = c' := (cmp_eq (by omega) (by omega)).mp (hc2.symm.trans hc)
    subst ec2
    refine Or.inr ⟨z.1, b', hb', g1, g2, by omega, fun z0 => ?_⟩
    obtain ⟨b, hbn, hb, hpb⟩ := z.2 z0
    have eb : b' = b := (cmp_eq (by omega) (by omega)).mp (hb'.symm.trans hb)
    omega
theorem TP_retry {G : Prg} {t n p k : Nat} {dp : Nat → Nat} {v : Row} (hs : PS G t n dp) (h : TPat G t n dp v p) (hk : k < dp p) (h40 : G 1026 (60 * t + rTok v t k) = 40) (h0 : v (rB t k + 1) = 0) : ∃ p', p < p' ∧ TPat G t n dp (rRetryAt v t k (G 1028 (60 * t + rTok v t k))) p' := by
  have hB : ∀ k, rB t k = rAt t + 17 + 10 * k := fun _ => rfl
  obtain ⟨hp, hpn, hc, ho⟩ := h
  have hd3 := hs.2.2.2.2.1 p hpn
  obtain ⟨q, c, hq, hT, hqp, hqn, hd, hcn, hqc, hcc, hpc, dc, dc1, hin, hb⟩ := Op_facts hs (ho k hk)
  rw [hT] at h40 ⊢
  rcases hb with z | ⟨-, b, hb, hqb, hbc, db1, hpb⟩
  · rw [h40] at z; exact absurd z.1 (by decide)
  have hpb := hpb h0
  have hB' := hB k
  have bl : ∀ j i, j ≤ k → i < 2 → (j < k ∨ i = 0) → rRetryAt v t k (G 1028 (60 * t + q)) (rB t j + i) = v (rB t j + i) := by
    intro j i hj hi hji
    have := hB j
    unfold rRetryAt
    rw [upd_ne _ _ (by omega), upd_ne _ _ (by omega), upd_ne _ _ (by omega)]
    unfold rBring
    rw [if_neg (by omega), if_neg (by omega)]
  refine ⟨b + 1, by omega, ?_, by omega, ?_, fun j hj => ?_⟩
  · unfold rRetryAt
    rw [upd_same, hb, nI_ofNat 1, nI_add]
  · unfold rRetryAt
    rw [upd_ne _ _ (by omega), upd_same, db1]
  · rw [db1] at hj
    by_cases e : j = k
    · subst e
      refine ⟨q, c, by rw [show rB t j = rB t j + 0 from rfl, bl j 0 (by omega) (by omega) (Or.inr rfl)]; exact hq, by omega, hd, hcn, hcc, by omega, Or.inr ⟨h40, fun z0 => ?_⟩⟩
      exfalso
      have : rRetryAt v t j (G 1028 (60 * t + q)) (rB t j + 1) = 1 := by
        unfold rRetryAt
        rw [upd_ne _ _ (by omega), upd_ne _ _ (by omega), upd_same]
      rw [this] at z0
      exact absurd z0 (by decide)
    · refine Op_move hs (ho j (by omega)) (by omega) (bl j 0 (by omega) (by omega) (Or.inr rfl)) (bl j 1 (by omega) (by omega) (Or.inl (by omega))) (fun r r1 r2 r3 _ => ?_)
      by_cases hr : r ≤ c
      · have := hin r (by omega) hr; omega
      · omega
theorem TP_aband {G : Prg} {t n p k : Nat} {dp : Nat → Nat} {v : Row} (hs : PS G t n dp) (h : TPat G t n dp v p) (hk : k < dp p) (h123 : G 1026 (60 * t + rTok v t k) = 123) : ∃ p', p < p' ∧ TPat G t n dp (rAbandAt v t k (G 1029 (60 * t + rTok v t k))) p' := by
  have hB : ∀ k, rB t k = rAt t + 17 + 10 * k := fun _ => rfl
  obtain ⟨hp, hpn, hc, ho⟩ := h
  have hd3 := hs.2.2.2.2.1 p hpn
  obtain ⟨q, c, hq, hT, hqp, hqn, hd, hcn, hqc, hcc, hpc, dc, dc1, hin, hb⟩ := Op_facts hs (ho k hk)
  rw [hT]
  have hB' := hB k
  have bl : ∀ j i, j ≤ k → i < 2 → rAbandAt v t k (G 1029 (60 * t + q)) (rB t j + i) = v (rB t j + i) := by
    intro j i hj hi
    have := hB j
    unfold rAbandAt
    rw [upd_ne _ _ (by omega), upd_ne _ _ (by omega)]
    unfold rBring
    rw [if_neg (by omega), if_neg (by omega)]
  refine ⟨c + 1, by omega, ?_, by omega, ?_, fun j hj => ?_⟩
  · unfold rAbandAt
    rw [upd_same, hcc, nI_ofNat 1, nI_add]
  · unfold rAbandAt
    rw [upd_ne _ _ (by omega), upd_same, dc1]
  · rw [dc1] at hj
    refine Op_move hs (ho j (by omega)) (by omega) (bl j 0 (by omega) (by omega)) (bl j 1 (by omega) (by omega)) (fun r r1 r2 r3 _ => ?_)
    by_cases hr : r ≤ c
    · have := hin r (by omega) hr; omega
    · omega
/-- a row whose blocks are as before, one place on -/
theorem TP_next {G : Prg} {t n p : Nat} {dp : Nat → Nat} {v v' : Row} (hs : PS G t n dp) (h : TPat G t n dp v p) (hpn : p < n) (hnE : ¬ Ends G t p) (hd : dp (p + 1) = dp p) (e1 : v' (rAt t + 1) = nI (p + 1)) (e16 : v' (rAt t + 16) = v (rAt t + 16)) (eb : ∀ j, 17 ≤ j → j < 47 → v' (rAt t + j) = v (rAt t + j)) : TPat G t n dp v' (p + 1) := by
  obtain ⟨hp, -, hc, ho⟩ := h
  have hd3 := hs.2.2.2.2.1 p (by omega)
  refine ⟨e1, by omega, by rw [e16, hd]; exact hc, fun k hk => ?_⟩
  rw [hd] at hk
  have hB : rB t k = rAt t + (17 + 10 * k) := by unfold rB; omega
  refine Op_move hs (ho k hk) (by omega) (by rw [hB]; exact eb _ (by omega) (by omega)) (by rw [hB, Nat.add_assoc]; exact eb _ (by omega) (by omega)) (fun r r1 r2 r3 r4 => ?_)
  by_cases e : r = p
  · subst e; exact absurd r4 hnE
  · omega
theorem TP_open {G : Prg} {t n p : Nat} {dp : Nat → Nat} {v : Row} (hs : PS G t n dp) (h : TPat G t n dp v p) (hpn : p < n) (hl : G 1026 (60 * t + p) = 40 ∨ G 1026 (60 * t + p) = 123) : dp p < 3 ∧ TPat G t n dp (rOpenAt (rPos v t) t (dp p) (nI p)) (p + 1) := by
  obtain ⟨hp, -, hc, ho⟩ := h
  obtain ⟨s1, s2, -⟩ := hs.2.2.2.2.2 p hpn
  obtain ⟨dn, c, hcc, hpc, hcn, dc, dc1, -, hin⟩ := s1 hl
  have hd3 := hs.2.2.2.2.1 (p + 1) (by omega)
  have n6 := hs.1
  generalize hK : dp p = K at *
  have hB : rB t K = rAt t + 17 + 10 * K := rfl
  have hnE : ¬ Ends G t p := by
    unfold Ends
    rcases hl with z | z <;> rw [z] <;> decide
  have e16 : rPos v t (rAt t + 16) = nI K := by rw [← hc]; exact upd_ne _ _ (by omega)
  refine ⟨by omega, ?_, by omega, ?_, fun k hk => ?_⟩
  · unfold rOpenAt
    rw [upd_ne _ _ (by omega), if_neg (by omega), if_neg (by omega), if_neg (by omega), if_neg (by omega)]
    unfold rPos
    rw [upd_same, hp, nI_ofNat 1, nI_add]
  · unfold rOpenAt
    rw [upd_same, e16, dn, nI_ofNat 1, nI_add]
  · rw [dn] at hk
    have hBk : rB t k = rAt t + 17 + 10 * k := rfl
    by_cases e : k = K
    · subst e
      have t0 : rOpenAt (rPos v t) t k (nI p) (rB t k) = nI p := by
        unfold rOpenAt
        rw [upd_ne _ _ (by omega), if_neg (by omega), if_neg (by omega), if_neg (by omega), if_pos rfl]
      have t1 : rOpenAt (rPos v t) t k (nI p) (rB t k + 1) = 0 := by
        unfold rOpenAt
        rw [upd_ne _ _ (by omega), if_neg (by omega), if_neg (by omega), if_pos rfl]
      refine ⟨p, c, t0, by omega, hK, hcn, hcc, by omega, ?_⟩
      rcases hl with z | z
      · refine Or.inr ⟨z, fun _ => ?_⟩
        obtain ⟨b, c2, hb, hc2, g1, g2, g6, -⟩ := s2 z
        exact ⟨b, by omega, hb, by omega⟩
      · exact Or.inl ⟨z, t1⟩
    · have bl : ∀ i, i < 2 → rOpenAt (rPos v t) t K (nI p) (rB t k + i) = v (rB t k + i) := by
        intro i hi
        unfold rOpenAt
        rw [upd_ne _ _ (by omega), if_neg (by omega), if_neg (by omega), if_neg (by omega), if_neg (by omega)]
        exact upd_ne _ _ (by omega)
      refine Op_move hs (ho k (by omega)) (by omega) (bl 0 (by omega)) (bl 1 (by omega)) (fun r r1 r2 r3 r4 => ?_)
      by_cases e : r = p
      · subst e; exact absurd r4 hnE
      · omega
theorem TP_close {G : Prg} {t n p : Nat} {dp : Nat → Nat} {v : Row} (hs : PS G t n dp) (h : TPat G t n dp v p) (hpn : p < n) (hl : G 1026 (60 * t + p) = 41 ∨ G 1026 (60 * t + p) = 125) : 0 < dp p ∧ TPat G t n dp (rPop (rPos v t) t) (p + 1) := by
  obtain ⟨hp, -, hc, ho⟩ := h
  obtain ⟨-, -, -, s4, -⟩ := hs.2.2.2.2.2 p hpn
  have dn := s4 hl
  have hd3 := hs.2.2.2.2.1 p (by omega)
  have n6 := hs.1
  refine ⟨by omega, ?_, by omega, ?_, fun k hk => ?_⟩
  · unfold rPop rPos
    rw [upd_ne _ _ (by omega), upd_same, hp, nI_ofNat 1, nI_add]
  · unfold rPop rPos
    rw [upd_same, upd_ne _ _ (by omega), hc, ← dn]
    exact (by decide : ∀ k, k < 3 → nI (k + 1) - 1 = nI k) _ (by omega)
  · have hBk : rB t k = rAt t + 17 + 10 * k := rfl
    have bl : ∀ i, i < 2 → rPop (rPos v t) t (rB t k + i) = v (rB t k + i) := by
      intro i hi
      unfold rPop rPos
      rw [upd_ne _ _ (by omega), upd_ne _ _ (by omega)]
    refine Op_move hs (ho k (by omega)) (by omega) (bl 0 (by omega)) (bl 1 (by omega)) (fun r r1 r2 r3 r4 => ?_)
    by_cases e : r = p
    · subst e; omega
    · omega
theorem TP_bar {G : Prg} {t n p : Nat} {dp : Nat → Nat} {v : Row} (hs : PS G t n dp) (h : TPat G t n dp v p) (hpn : p < n) (hl : G 1026 (60 * t + p) = 124) : 0 < dp p ∧ ∃ p', p < p' ∧ TPat G t n dp (upd (rPop (rPos v t) t) (rAt t + 1) (G 1029 (60 * t + p) + 1)) p' := by
  obtain ⟨hp, -, hc, ho⟩ := h
  obtain ⟨-, -, s3, -, -⟩ := hs.2.2.2.2.2 p hpn
  obtain ⟨-, c, hcc, hpc, hcn, dc1, hin⟩ := s3 hl
  have hd3 := hs.2.2.2.2.1 p (by omega)
  have n6 := hs.1
  refine ⟨by omega, c + 1, by omega, ?_, by omega, ?_, fun k hk => ?_⟩
  · rw [upd_same, hcc, nI_ofNat 1, nI_add]
  · unfold rPop rPos
    rw [upd_ne _ _ (by omega), upd_same, upd_ne _ _ (by omega), hc, ← dc1]
    exact (by decide : ∀ k, k < 3 → nI (k + 1) - 1 = nI k) _ (by omega)
  · have hBk : rB t k = rAt t + 17 + 10 * k := rfl
    have bl : ∀ i, i < 2 → upd (rPop (rPos v t) t) (rAt t + 1) (G 1029 (60 * t + p) + 1) (rB t k + i) = v (rB t k + i) := by
      intro i hi
      unfold rPop rPos
      rw [upd_ne _ _ (by omega), upd_ne _ _ (by omega), upd_ne _ _ (by omega)]
    refine Op_move hs (ho k (by omega)) (by omega) (bl 0 (by omega)) (bl 1 (by omega)) (fun r r1 r2 r3 r4 => ?_)
    by_cases e : r = p
    · subst e; omega
    · by_cases e2 : r ≤ c
      · have := hin r (by omega) e2; omega
      · omega
