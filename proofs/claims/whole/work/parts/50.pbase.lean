/-! PURE PART. Small numbers, rows of memory -/
def pr (m : ct_M) (A : Nat) (v : Nat → Int32) : ct_M := (va_up m.1 A v, m.2)
theorem pr_st (m : ct_M) (A j : Nat) (x : Int32) : ct_st m A j x = pr m A (upd (m.1 A) j x) := rfl
theorem pr_pr (m : ct_M) (A : Nat) (u v : Nat → Int32) : pr (pr m A u) A v = pr m A v := by
  unfold pr; congr 1; funext q; simp only [va_up]; split <;> rfl
theorem pr_at (m : ct_M) (A : Nat) (v : Nat → Int32) : (pr m A v).1 A = v := va_up_self _ _ _
theorem pr_ne (m : ct_M) {A B : Nat} (v : Nat → Int32) (h : B ≠ A) : (pr m A v).1 B = m.1 B := va_up_ne _ _ h
theorem pr_2 (m : ct_M) (A : Nat) (v : Nat → Int32) : (pr m A v).2 = m.2 := rfl
theorem pr_id (m : ct_M) (A : Nat) : pr m A (m.1 A) = m := by
  unfold pr; refine Prod.ext ?_ rfl; funext q; simp only [va_up]; split
  · rename_i h; rw [h]
  · rfl
theorem pr_comm (m : ct_M) {A B : Nat} (u v : Nat → Int32) (h : A ≠ B) : pr (pr m A u) B v = pr (pr m B v) A u := by
  unfold pr; refine Prod.ext ?_ rfl; funext q; simp only [va_up]; split <;> split <;> first | rfl | (exfalso; omega)
theorem nI_ofNat (n : Nat) : (no_index (OfNat.ofNat n) : Int32) = nI n := rfl
theorem vp_nI {n N : Nat} (h : n < 2 ^ 31) : vp_in (nI n) N ↔ n < N := by
  unfold vp_in
  rw [nI_clamp h]
  constructor
  · intro q
    exact Nat.not_le.mp fun z => q (Or.inr z)
  · intro q z
    rcases z with z | z
    · exact nI_pos h z
    · omega
theorem cmp_le {a b : Nat} (ha : a < 2 ^ 31) (hb : b < 2 ^ 31) : nI a ≤ nI b ↔ a ≤ b := nI_leI ha hb
theorem cmp_lt {a b : Nat} (ha : a < 2 ^ 31) (hb : b < 2 ^ 31) : nI a < nI b ↔ a < b := nI_ltI ha hb
theorem cmp_eq {a b : Nat} (ha : a < 2 ^ 31) (hb : b < 2 ^ 31) : nI a = nI b ↔ a = b := nI_eq ha hb
theorem cl {n : Nat} (h : n < 2 ^ 31) : (nI n).toNatClampNeg = n := nI_clamp h
theorem fa_eq {α : Type} {a : α} {P : α → Prop} : (∀ x, x = a → P x) ↔ P a := ⟨fun h => h a rfl, fun h x hx => hx ▸ h⟩
theorem upd_same (f : Nat → Int32) (k : Nat) (x : Int32) : upd f k x k = x := by simp [upd]
theorem upd_ne (f : Nat → Int32) {k j : Nat} (x : Int32) (h : j ≠ k) : upd f k x j = f j := by simp [upd, h]
/-! the reference's rows: the world is a row of 172 ints -/
abbrev Row : Type := Nat → Int32
def rAt (t : Nat) : Nat := 25 + 49 * t
def rBegin (v : Row) (t : Nat) : Row := fun i => if rAt t + 1 ≤ i ∧ i < rAt t + 47 then 0 else v i
def rStop (v : Row) (t : Nat) (how : Int32) : Row := upd (rBegin v t) (rAt t) how
theorem r_begin {A t : Nat} {Q : ct_M → Prop} {m : ct_M} (hA : ct_ln A = 172) (ht : t < 3) (h : Q (pr m A (rBegin (m.1 A) t))) : wp_X12_begin A (nI t) Q m := by
  have loop : ∀ (k j : Nat) (m : ct_M), j + k = 47 → Q (pr m A (fun i => if rAt t + j ≤ i ∧ i < rAt t + 47 then 0 else m.1 A i)) → wb_X12_begin_2 Q (k + 1) A (nI t) (nI j) m := by
    intro k
    induction k with
    | zero =>
      intro j m hj h
      have : j = 47 := by omega
      subst this
      unfold wb_X12_begin_2
      simp (disch := omega) only [nI_ofNat, cmp_le]
      refine ⟨fun _ => ?_, fun h => absurd (by omega) h⟩
      have e : (fun i => if rAt t + 47 ≤ i ∧ i < rAt t + 47 then 0 else m.1 A i) = m.1 A := by
        funext i; rw [if_neg (by omega)]
      rw [e, pr_id] at h
      exact h
    | succ k ih =>
      intro j m hj h
      unfold wb_X12_begin_2 wp_X12_at
      simp (disch := omega) only [nI_ofNat, cmp_le, pk_mul, nI_add, vp_nI, cl, fa_eq, hA]
      refine ⟨fun h => absurd h (by omega), fun _ => ⟨by omega, ?_⟩⟩
      refine ih (j + 1) _ (by omega) ?_
      rw [pr_st, pr_pr, pr_at]
      have e : (fun i => if rAt t + (j + 1) ≤ i ∧ i < rAt t + 47 then 0 else upd (m.1 A) (25 + 49 * t + j) (nI 0) i) = (fun i => if rAt t + j ≤ i ∧ i < rAt t + 47 then 0 else m.1 A i) := by
        have hr : rAt t = 25 + 49 * t := rfl
        funext i
        simp only [upd]
        (repeat' split) <;> first | rfl | (exfalso; omega)
      rw [e]
      exact h
  exact ⟨47, loop 46 1 m rfl h⟩
theorem r_stop {A t : Nat} {how : Int32} {Q : ct_M → Prop} {m : ct_M} (hA : ct_ln A = 172) (ht : t < 3) (h : Q (pr m A (rStop (m.1 A) t how))) : wp_X12_stop A (nI t) how Q m := by
  unfold wp_X12_stop
  refine r_begin hA ht ?_
  unfold wp_X12_at
  simp (disch := omega) only [nI_ofNat, pk_mul, nI_add, vp_nI, cl, fa_eq, hA, pr_st, pr_pr, pr_at]
  exact ⟨by omega, h⟩
def rRestart (v : Row) (t : Nat) : Row := upd (rStop v t 0) (rAt t + 48) (rStop v t 0 (rAt t + 48) + 1)
theorem r_restart {A t : Nat} {Q : Int32 → ct_M → Prop} {m : ct_M} (hA : ct_ln A = 172) (ht : t < 3) (h : Q 2 (pr m A (rRestart (m.1 A) t))) : wp_X12_restart A (nI t) Q m := by
  unfold wp_X12_restart
  refine r_stop hA ht ?_
  unfold wp_X12_at
  simp (disch := omega) only [nI_ofNat, pk_mul, nI_add, vp_nI, cl, fa_eq, hA, pr_st, pr_pr, pr_at]
  exact ⟨by omega, by omega, h⟩
def bitSet (x : Int32) (c : Nat) : Prop := (x >>> (nI c &&& 31)) &&& 1 = 1
theorem r_has {x : Int32} {c : Nat} {Q : Int32 → ct_M → Prop} {m : ct_M} (h1 : bitSet x c → Q 1 m) (h0 : ¬ bitSet x c → Q 0 m) : wp_X12_has x (nI c) Q m := ⟨h0, h1⟩
noncomputable def rSees (v : Row) (t c : Nat) : Int32 := @ite _ (bitSet (v (rAt t + 9)) c) (Classical.propDecidable _) (v (rAt t + 10 + c)) (v c)
theorem rSees_in {v : Row} {t c : Nat} (h : bitSet (v (rAt t + 9)) c) : rSees v t c = v (rAt t + 10 + c) := if_pos h
theorem rSees_out {v : Row} {t c : Nat} (h : ¬ bitSet (v (rAt t + 9)) c) : rSees v t c = v c := if_neg h
theorem r_sees {A t c : Nat} {Q : Int32 → ct_M → Prop} {m : ct_M} (hA : ct_ln A = 172) (ht : t < 3) (hc : c < 6) (h : Q (rSees (m.1 A) t c) m) : wp_X12_sees A (nI t) (nI c) Q m := by
  have hr : rAt t = 25 + 49 * t := rfl
  unfold wp_X12_sees wp_X12_at
  simp (disch := omega) only [nI_ofNat, pk_mul, nI_add, vp_nI, cl, hA]
  refine ⟨by omega, r_has (fun hb => ?_) (fun hb => ?_)⟩
  · rw [rSees_in hb] at h
    refine ⟨fun e => absurd e (by decide), fun _ => ⟨by omega, ?_⟩⟩
    rw [hr] at h
    exact h
  · rw [rSees_out hb] at h
    exact ⟨fun _ => ⟨by omega, h⟩, fun e => absurd rfl e⟩
def rValid (v : Row) (t : Nat) : Prop := ∀ c, c < 6 → v (rAt t + 3 + c) = 0 ∨ v (rAt t + 3 + c) = v (6 + c) + 1
theorem okZ1 : ct_okZ 1 := ⟨rfl, rfl⟩
theorem okZ0 : ct_okZ 0 := ⟨rfl, rfl⟩
theorem r_valid {A t : Nat} {Q : Int32 → ct_M → Prop} {m : ct_M} (hA : ct_ln A = 172) (ht : t < 3) (h1 : rValid (m.1 A) t → Q 1 m) (h0 : ¬ rValid (m.1 A) t → Q 0 m) : wp_X12_isValid A (nI t) Q m := by
  have hr : rAt t = 25 + 49 * t := rfl
  have loop0 : ∀ (k j : Nat), j + k = 6 → Q 0 m → wb_X12_isValid_4 Q (k + 1) A (nI t) 0 (nI j) m := by
    intro k
    induction k with
    | zero =>
      intro j hj h
      have : j = 6 := by omega
      subst this
      unfold wb_X12_isValid_4
      exact ⟨fun _ => ⟨okZ0, h⟩, fun h => absurd (by decide) h⟩
    | succ k ih =>
      intro j hj h
      unfold wb_X12_isValid_4 wp_X12_at
      simp (disch := omega) only [nI_ofNat, cmp_le, pk_mul, nI_add, vp_nI, cl, fa_eq, hA]
      refine ⟨fun h => absurd h (by omega), fun _ => ⟨by omega, fun _ => ?_, fun h => absurd trivial h⟩⟩
      unfold wb_X12_isValid_48 wb_X12_isValid_49
      intro x hx
      rw [hx, nI_ofNat 1, nI_add]
      exact ih (j + 1) (by omega) h
  have loop1 : ∀ (k j : Nat), j + k = 6 → (∀ c, c < j → m.1 A (rAt t + 3 + c) = 0 ∨ m.1 A (rAt t + 3 + c) = m.1 A (6 + c) + 1) → wb_X12_isValid_4 Q (k + 1) A (nI t) 1 (nI j) m := by
    intro k
    induction k with
    | zero =>
      intro j hj h
      have : j = 6 := by omega
      subst this
      unfold wb_X12_isValid_4
      exact ⟨fun _ => ⟨okZ1, h1 h⟩, fun h => absurd (by decide) h⟩
    | succ k ih =>
      intro j hj h
      unfold wb_X12_isValid_4 wp_X12_at
      have next : ∀ x : Int32, x = nI j + 1 → (m.1 A (rAt t + 3 + j) = 0 ∨ m.1 A (rAt t + 3 + j) = m.1 A (6 + j) + 1) → wb_X12_isValid_4 Q (k + 1) A (nI t) 1 x m := by
        intro x hx hj2
        rw [hx, nI_ofNat 1, nI_add]
        refine ih (j + 1) (by omega) (fun c hc => ?_)
        by_cases e : c = j
        · subst e; exact hj2
        · exact h c (by omega)
      have stop : ∀ x : Int32, x = nI j + 1 → ¬ (m.1 A (rAt t + 3 + j) = 0 ∨ m.1 A (rAt t + 3 + j) = m.1 A (6 + j) + 1) → wb_X12_isValid_4 Q (k + 1) A (nI t) 0 x m := by
        intro x hx hj2
        rw [hx, nI_ofNat 1, nI_add]
        exact loop0 k (j + 1) (by omega) (h0 fun hv => hj2 (hv j (by omega)))
      simp (disch := omega) only [nI_ofNat, cmp_le, pk_mul, nI_add, vp_nI, cl, fa_eq, hA]
      refine ⟨fun h => absurd h (by omega), fun _ => ⟨by omega, fun h => absurd h (by decide), fun _ => ⟨fun e => ?_, fun e => ⟨by omega, fun e2 => ?_, fun e2 => ?_⟩⟩⟩⟩
      · unfold wb_X12_isValid_44 wb_X12_isValid_49
        exact fun x hx => next x hx (Or.inl e)
      · unfold wb_X12_isValid_48 wb_X12_isValid_49
        exact fun x hx => stop x hx (fun z => z.elim e e2)
      · unfold wb_X12_isValid_44 wb_X12_isValid_49
        exact fun x hx => next x hx (Or.inr e2)
  exact ⟨7, loop1 6 0 rfl (fun c hc => absurd hc (by omega))⟩
def rGrow1 (v : Row) (c : Nat) : Row := upd v (6 + c) (v (6 + c) + 1)
noncomputable def rWake (v : Row) (c t : Nat) : Row := @ite _ (v (rAt t) = 1 ∧ ¬ v (rAt t + 3 + c) ≤ 0) (Classical.propDecidable _) (rRestart v t) v
noncomputable def rGrow (v : Row) (c : Nat) : Nat → Row
  | 0 => rGrow1 v c
  | T + 1 => rWake (rGrow v c T) c T
theorem r_grow {A O T c : Nat} {Q : ct_M → Prop} {m : ct_M} (hA : ct_ln A = 172) (hO : O ≠ A) (hT : T ≤ 3) (hth : m.1 O 4 = nI T) (hc : c < 6) (h : Q (pr m A (rGrow (m.1 A) c T))) : wp_X12_grow O A (nI c) Q m := by
  have loop : ∀ (k j : Nat), j + k = T → Q (pr m A (rGrow (m.1 A) c T)) → wb_X12_grow_12 Q (k + 1) O A (nI c) (nI j) (pr m A (rGrow (m.1 A) c j)) := by
    intro k
    induction k with
    | zero =>
      intro j hj h
      have : j = T := by omega
      subst this
      unfold wb_X12_grow_12
      rw [pr_ne _ _ hO, hth]
      simp (disch := omega) only [cmp_le]
      exact ⟨fun _ => h, fun e => absurd (Nat.le_refl _) e⟩
    | succ k ih =>
      intro j hj h
      have hr : rAt j = 25 + 49 * j := rfl
      have nx := ih (j + 1) (by omega) h
      unfold wb_X12_grow_12 wp_X12_at wb_X12_grow_51
      rw [pr_ne _ _ hO, hth]
      simp (disch := omega) only [nI_ofNat, cmp_le, pk_mul, nI_add, vp_nI, cl, fa_eq, hA, pr_at]
      refine ⟨fun e => absurd e (by omega), fun _ => ⟨by omega, fun e => ?_, fun e => ⟨by omega, fun e2 => ?_, fun e2 => r_restart hA (by omega) ?_⟩⟩⟩
      · have : rGrow (m.1 A) c (j + 1) = rGrow (m.1 A) c j := if_neg fun z => e z.1
        rw [← this]; exact nx
      · have : rGrow (m.1 A) c (j + 1) = rGrow (m.1 A) c j := if_neg fun z => z.2 e2
        rw [← this]; exact nx
      · have : rGrow (m.1 A) c (j + 1) = rRestart (rGrow (m.1 A) c j) j := if_pos ⟨e, e2⟩
        rw [pr_at, pr_pr, ← this]
        exact nx
  unfold wp_X12_grow
  simp (disch := omega) only [nI_ofNat, nI_add, vp_nI, cl, fa_eq, hA]
  refine ⟨by omega, by omega, T + 1, ?_⟩
  have := loop T 0 (by omega) h
  rw [pr_st]
  exact this
