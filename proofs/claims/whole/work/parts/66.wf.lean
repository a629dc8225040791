/-! what rows and programs hold: the structure of the programs -/
def PS (G : Prg) (t n : Nat) (dp : Nat → Nat) : Prop := n < 60 ∧ G 1025 t = nI n ∧ Lets G t n ∧ dp 0 = 0 ∧ (∀ p, p ≤ n → dp p ≤ 3) ∧ ∀ p, p < n →
  ((G 1026 (60 * t + p) = 40 ∨ G 1026 (60 * t + p) = 123) → dp (p + 1) = dp p + 1 ∧ ∃ c : Nat, G 1029 (60 * t + p) = nI c ∧ p < c ∧ c < n ∧ dp c = dp p + 1 ∧ dp (c + 1) = dp p ∧ (G 1026 (60 * t + c) = 41 ∨ G 1026 (60 * t + c) = 125) ∧ ∀ r, p < r → r ≤ c → dp p + 1 ≤ dp r) ∧
  (G 1026 (60 * t + p) = 40 → ∃ b c : Nat, G 1028 (60 * t + p) = nI b ∧ G 1029 (60 * t + p) = nI c ∧ p < b ∧ b < c ∧ c < n ∧ G 1026 (60 * t + b) = 124 ∧ dp b = dp p + 1 ∧ dp (b + 1) = dp p + 1) ∧
  (G 1026 (60 * t + p) = 124 → dp (p + 1) = dp p ∧ ∃ c : Nat, G 1029 (60 * t + p) = nI c ∧ p < c ∧ c < n ∧ dp (c + 1) + 1 = dp p ∧ ∀ r, p < r → r ≤ c → dp p ≤ dp r) ∧
  ((G 1026 (60 * t + p) = 41 ∨ G 1026 (60 * t + p) = 125) → dp (p + 1) + 1 = dp p) ∧
  (¬ (G 1026 (60 * t + p) = 40 ∨ G 1026 (60 * t + p) = 123 ∨ G 1026 (60 * t + p) = 41 ∨ G 1026 (60 * t + p) = 125) → dp (p + 1) = dp p)
/-- an open block of a thread that stands at p -/
def Op (G : Prg) (t n : Nat) (dp : Nat → Nat) (v : Row) (p k : Nat) : Prop := ∃ q c : Nat, v (rB t k) = nI q ∧ q < p ∧ dp q = k ∧ c < n ∧ G 1029 (60 * t + q) = nI c ∧ p ≤ c ∧ ((G 1026 (60 * t + q) = 123 ∧ v (rB t k + 1) = 0) ∨ (G 1026 (60 * t + q) = 40 ∧ (v (rB t k + 1) = 0 → ∃ b : Nat, b < n ∧ G 1028 (60 * t + q) = nI b ∧ p ≤ b)))
def TPat (G : Prg) (t n : Nat) (dp : Nat → Nat) (v : Row) (p : Nat) : Prop := v (rAt t + 1) = nI p ∧ p ≤ n ∧ v (rAt t + 16) = nI (dp p) ∧ ∀ k, k < dp p → Op G t n dp v p k
/-- values -/
def V (x : Int32) : Prop := -99 ≤ x ∧ x ≤ 99
theorem V0 : V 0 := ⟨by decide, by decide⟩
theorem V_clamp (x : Int32) : V (rClamp x) := by
  unfold V rClamp
  have h2 : ∀ a b : Int32, a ≤ b ↔ a.toInt ≤ b.toInt := fun a b => Int32.le_iff_toInt_le
  have c1 : (99 : Int32).toInt = 99 := rfl
  have c2 : (-99 : Int32).toInt = -99 := rfl
  (repeat' split) <;> simp only [h2, c1, c2] at * <;> omega
def valJ (j : Nat) : Prop := j = 2 ∨ (10 ≤ j ∧ j < 16) ∨ (17 ≤ j ∧ j < 47 ∧ ((j - 17) % 10 = 2 ∨ 4 ≤ (j - 17) % 10))
def mskJ (j : Nat) : Prop := j = 9 ∨ (17 ≤ j ∧ j < 47 ∧ (j - 17) % 10 = 3)
def redJ (j : Nat) : Prop := 3 ≤ j ∧ j < 9
def TV (v : Row) (t : Nat) : Prop := (∀ j, valJ j → V (v (rAt t + j))) ∧ (∀ j, mskJ j → ∃ x : Nat, x < 64 ∧ v (rAt t + j) = nI x) ∧ (∀ j, redJ j → ∃ q : Nat, q < 2 ^ 30 ∧ v (rAt t + j) = nI q)
/-- row v' is as v, but for places that are 0 -/
theorem TV_zero {v v' : Row} {t : Nat} (h : TV v t) (hz : ∀ j, 1 ≤ j → j < 47 → v' (rAt t + j) = v (rAt t + j) ∨ v' (rAt t + j) = 0) : TV v' t := by
  refine ⟨fun j hj => ?_, fun j hj => ?_, fun j hj => ?_⟩
  · rcases hz j (by unfold valJ at hj; omega) (by unfold valJ at hj; omega) with e | e
    · rw [e]; exact h.1 j hj
    · rw [e]; exact V0
  · rcases hz j (by unfold mskJ at hj; omega) (by unfold mskJ at hj; omega) with e | e
    · rw [e]; exact h.2.1 j hj
    · rw [e]; exact ⟨0, by decide, rfl⟩
  · rcases hz j (by unfold redJ at hj; omega) (by unfold redJ at hj; omega) with e | e
    · rw [e]; exact h.2.2 j hj
    · rw [e]; exact ⟨0, by decide, rfl⟩
theorem TV_upd {v : Row} {t j : Nat} {x : Int32} (h : TV v t) (h1 : valJ j → V x) (h2 : mskJ j → ∃ y : Nat, y < 64 ∧ x = nI y) (h3 : redJ j → ∃ q : Nat, q < 2 ^ 30 ∧ x = nI q) : TV (upd v (rAt t + j) x) t := by
  refine ⟨fun i hi => ?_, fun i hi => ?_, fun i hi => ?_⟩
  · by_cases e : i = j
    · subst e; rw [upd_same]; exact h1 hi
    · rw [upd_ne _ _ (by omega)]; exact h.1 i hi
  · by_cases e : i = j
    · subst e; rw [upd_same]; exact h2 hi
    · rw [upd_ne _ _ (by omega)]; exact h.2.1 i hi
  · by_cases e : i = j
    · subst e; rw [upd_same]; exact h3 hi
    · rw [upd_ne _ _ (by omega)]; exact h.2.2 i hi
theorem TV_bring {v : Row} {t k : Nat} (h : TV v t) (hk : k < 3) : TV (rBring v t (rB t k)) t := by
  have hB : rB t k = rAt t + 17 + 10 * k := rfl
  refine ⟨fun j hj => ?_, fun j hj => ?_, fun j hj => ?_⟩
  · unfold rBring
    by_cases e : rAt t + 9 ≤ rAt t + j ∧ rAt t + j < rAt t + 16
    · rw [if_pos e, show rB t k + 3 + (rAt t + j - (rAt t + 9)) = rAt t + (20 + 10 * k + (j - 9)) by omega]
      exact h.1 _ (by unfold valJ at hj ⊢; omega)
    · rw [if_neg e]
      by_cases e2 : rAt t + j = rAt t + 2
      · rw [if_pos e2, show rB t k + 2 = rAt t + (19 + 10 * k) by omega]
        exact h.1 _ (by unfold valJ; omega)
      · rw [if_neg e2]; exact h.1 j hj
  · unfold rBring
    by_cases e : rAt t + 9 ≤ rAt t + j ∧ rAt t + j < rAt t + 16
    · rw [if_pos e, show rB t k + 3 + (rAt t + j - (rAt t + 9)) = rAt t + (20 + 10 * k + (j - 9)) by omega]
      exact h.2.1 _ (by unfold mskJ at hj ⊢; omega)
    · rw [if_neg e, if_neg (by unfold mskJ at hj; omega)]; exact h.2.1 j hj
  · unfold rBring
    rw [if_neg (by unfold redJ at hj; omega), if_neg (by unfold redJ at hj; omega)]; exact h.2.2 j hj
theorem TV_open {v : Row} {t k : Nat} {p : Int32} (h : TV v t) (hk : k < 3) : TV (rOpenAt v t k p) t := by
  have hB : rB t k = rAt t + 17 + 10 * k := rfl
  refine ⟨fun j hj => ?_, fun j hj => ?_, fun j hj => ?_⟩
  · unfold rOpenAt
    rw [upd_ne _ _ (by unfold valJ at hj; omega)]
    by_cases e : rB t k + 3 ≤ rAt t + j ∧ rAt t + j < rB t k + 10
    · rw [if_pos e, show rAt t + 9 + (rAt t + j - (rB t k + 3)) = rAt t + (9 + (j - (20 + 10 * k))) by omega]
      exact h.1 _ (by unfold valJ at hj ⊢; omega)
    · rw [if_neg e]
      by_cases e2 : rAt t + j = rB t k + 2
      · rw [if_pos e2]; exact h.1 2 (Or.inl rfl)
      · rw [if_neg e2]
        by_cases e3 : rAt t + j = rB t k + 1
        · rw [if_pos e3]; exact V0
        · rw [if_neg e3, if_neg (by unfold valJ at hj; omega)]; exact h.1 j hj
  · unfold rOpenAt
    rw [upd_ne _ _ (by unfold mskJ at hj; omega)]
    by_cases e : rB t k + 3 ≤ rAt t + j ∧ rAt t + j < rB t k + 10
    · rw [if_pos e, show rAt t + 9 + (rAt t + j - (rB t k + 3)) = rAt t + (9 + (j - (20 + 10 * k))) by omega]
      exact h.2.1 _ (by unfold mskJ at hj ⊢; omega)
    · rw [if_neg e, if_neg (by unfold mskJ at hj; omega), if_neg (by unfold mskJ at hj; omega), if_neg (by unfold mskJ at hj; omega)]; exact h.2.1 j hj
  · unfold rOpenAt
    rw [upd_ne _ _ (by unfold redJ at hj; omega), if_neg (by unfold redJ at hj; omega), if_neg (by unfold redJ at hj; omega), if_neg (by unfold redJ at hj; omega), if_neg (by unfold redJ at hj; omega)]; exact h.2.2 j hj
theorem TV_sees {v : Row} {t c : Nat} (h : TV v t) (hv : ∀ c, c < 6 → V (v c)) (hc : c < 6) : V (rSees v t c) := by
  by_cases hb : bitSet (v (rAt t + 9)) c
  · rw [rSees_in hb, Nat.add_assoc]; exact h.1 _ (by unfold valJ; omega)
  · rw [rSees_out hb]; exact hv c hc
theorem TV_retry {v : Row} {t k : Nat} {x : Int32} (h : TV v t) (hk : k < 3) : TV (rRetryAt v t k x) t := by
  unfold rRetryAt
  refine TV_upd (TV_upd ?_ (fun z => ?_) (fun z => ?_) (fun z => ?_)) (fun z => ?_) (fun z => ?_) (fun z => ?_)
  · rw [show rB t k + 1 = rAt t + (18 + 10 * k) by unfold rB; omega]
    refine TV_upd (TV_bring h hk) (fun z => ?_) (fun z => ?_) (fun z => ?_)
    · exact ⟨by decide, by decide⟩
    · unfold mskJ at z; omega
    · unfold redJ at z; omega
  all_goals (first | (unfold valJ at z; omega) | (unfold mskJ at z; omega) | (unfold redJ at z; omega))
theorem TV_aband {v : Row} {t k : Nat} {x : Int32} (h : TV v t) (hk : k < 3) : TV (rAbandAt v t k x) t := by
  unfold rAbandAt
  refine TV_upd (TV_upd (TV_bring h hk) (fun z => ?_) (fun z => ?_) (fun z => ?_)) (fun z => ?_) (fun z => ?_) (fun z => ?_)
  all_goals (first | (unfold valJ at z; omega) | (unfold mskJ at z; omega) | (unfold redJ at z; omega))
theorem TV_pos {v : Row} {t : Nat} {x : Int32} (h : TV v t) : TV (upd v (rAt t + 1) x) t := by
  refine TV_upd h (fun z => ?_) (fun z => ?_) (fun z => ?_)
  all_goals (first | (unfold valJ at z; omega) | (unfold mskJ at z; omega) | (unfold redJ at z; omega))
theorem TV_cnt {v : Row} {t : Nat} {x : Int32} (h : TV v t) : TV (upd v (rAt t + 16) x) t := by
  refine TV_upd h (fun z => ?_) (fun z => ?_) (fun z => ?_)
  all_goals (first | (unfold valJ at z; omega) | (unfold mskJ at z; omega) | (unfold redJ at z; omega))
theorem TV_sum {v : Row} {t : Nat} {x : Int32} (h : TV v t) (hx : V x) : TV (upd v (rAt t + 2) x) t := by
  refine TV_upd h (fun z => hx) (fun z => ?_) (fun z => ?_)
  all_goals (first | (unfold mskJ at z; omega) | (unfold redJ at z; omega))
theorem TV_plain {G : Prg} {v : Row} {t p : Nat} {k0 : Nat} {ℓ d : Int32} (h : TV v t) (hv : ∀ c, c < 6 → V (v c)) (hver : ∀ c, c < 6 → ∃ q : Nat, q < 2 ^ 29 ∧ v (6 + c) = nI q) (hk : v (rAt t + 16) = nI k0) (hk3 : (ℓ = 40 ∨ ℓ = 123) → k0 < 3) (hk4 : k0 ≤ 3) (hd : (ℓ = 114 ∨ ℓ = 119) → ∃ c : Nat, c < 6 ∧ d = nI c) : TV (fPlain G v t p ℓ d) t := by
  have hr : rAt t = 25 + 49 * t := rfl
  have hpos : TV (rPos v t) t := TV_pos h
  unfold fPlain
  by_cases e1 : ℓ = 114
  · rw [if_pos e1]
    obtain ⟨c, hc, ec⟩ := hd (Or.inl e1)
    rw [ec, cl (by omega), ← rPos_read hc]
    refine TV_pos ?_
    unfold rRead
    by_cases h1 : bitSet (v (rAt t + 9)) c ∨ ¬ v (rAt t + 3 + c) = 0
    · rw [if_pos h1]; exact TV_sum h (TV_sees h hv hc)
    · rw [if_neg h1, Nat.add_assoc]
      refine TV_upd (TV_sum h (TV_sees h hv hc)) (fun z => ?_) (fun z => ?_) (fun z => ?_)
      · unfold valJ at z; omega
      · unfold mskJ at z; omega
      · obtain ⟨q, hq, e⟩ := hver c hc
        exact ⟨q + 1, by omega, by rw [e, nI_ofNat 1, nI_add]⟩
  · rw [if_neg e1]
    by_cases e2 : ℓ = 119
    · rw [if_pos e2]
      obtain ⟨c, hc, ec⟩ := hd (Or.inr e2)
      rw [ec, cl (by omega)]
      unfold rWr
      obtain ⟨x, hx, ex⟩ := hpos.2.1 9 (Or.inl rfl)
      rw [show rAt t + 10 + c = rAt t + (10 + c) by omega]
      refine TV_upd (TV_upd hpos (fun z => ?_) (fun z => ?_) (fun z => ?_)) (fun z => ?_) (fun z => ?_) (fun z => ?_)
      · unfold valJ at z; omega
      · rw [ex]; obtain ⟨⟨r, h1, h2⟩, -⟩ := bit_or x c 0 hx hc (by decide)
        exact ⟨r, h1, h2⟩
      · unfold redJ at z; omega
      · exact hpos.1 2 (Or.inl rfl)
      · unfold mskJ at z; omega
      · unfold redJ at z; omega
    · rw [if_neg e2]
      by_cases e3 : ℓ = 43
      · rw [if_pos e3]; exact TV_sum hpos (V_clamp _)
      · rw [if_neg e3]
        by_cases e4 : ℓ = 45
        · rw [if_pos e4]; exact TV_sum hpos (V_clamp _)
        · rw [if_neg e4]
          by_cases e5 : ℓ = 40 ∨ ℓ = 123
          · rw [if_pos e5, hk, cl (by omega)]; exact TV_open hpos (hk3 e5)
          · rw [if_neg e5]
            by_cases e6 : ℓ = 41 ∨ ℓ = 125
            · rw [if_pos e6]; exact TV_cnt hpos
            · rw [if_neg e6]
              by_cases e7 : ℓ = 124
              · rw [if_pos e7]; exact TV_pos (TV_cnt hpos)
              · rw [if_neg e7]; exact hpos
