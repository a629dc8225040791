/-! indexes; the calls that only look -/
theorem lg_lt (x y : Int64) : lg_cmp x y < 0 ↔ x.toInt < y.toInt := by
  unfold lg_cmp
  have h1 : ∀ a b : Int64, a < b ↔ a.toInt < b.toInt := fun a b => Int64.lt_iff_toInt_lt
  by_cases h : x > y
  · rw [if_pos h]
    have := (h1 y x).mp h
    exact ⟨fun e => absurd e (by decide), fun e => by omega⟩
  · rw [if_neg h]
    have h2 : ¬ y.toInt < x.toInt := fun e => h ((h1 y x).mpr e)
    by_cases e : x = y
    · rw [if_pos e]
      subst e
      exact ⟨fun e => absurd e (by decide), fun e => by omega⟩
    · rw [if_neg e]
      have : x.toInt ≠ y.toInt := fun z => e (Int64.toInt_inj.mp z)
      exact ⟨fun _ => by omega, fun _ => by decide⟩
theorem lg_gt (x y : Int64) : 0 < lg_cmp x y ↔ y.toInt < x.toInt := by
  unfold lg_cmp
  have h1 : ∀ a b : Int64, a < b ↔ a.toInt < b.toInt := fun a b => Int64.lt_iff_toInt_lt
  by_cases h : x > y
  · rw [if_pos h]
    exact ⟨fun _ => (h1 y x).mp h, fun _ => by decide⟩
  · rw [if_neg h]
    have h2 : ¬ y.toInt < x.toInt := fun e => h ((h1 y x).mpr e)
    by_cases e : x = y
    · rw [if_pos e]; exact ⟨fun z => absurd z (by decide), fun z => absurd z h2⟩
    · rw [if_neg e]; exact ⟨fun z => absurd z (by decide), fun z => absurd z h2⟩
theorem r_in {x lo hi : Int64} {Q : Int32 → ct_M → Prop} {m : ct_M} (h1 : lo.toInt ≤ x.toInt → x.toInt ≤ hi.toInt → Q 1 m) (h0 : ¬ (lo.toInt ≤ x.toInt ∧ x.toInt ≤ hi.toInt) → Q 0 m) : wp_X12_in x lo hi Q m := by
  unfold wp_X12_in
  simp only [lg_lt, lg_gt]
  exact ⟨fun e => h0 (by omega), fun e => ⟨fun e2 => h0 (by omega), fun e2 => h1 (by omega) (by omega)⟩⟩
theorem i32_nI {p : Int32} (h : 0 ≤ p.toInt) : ∃ n : Nat, n < 2 ^ 31 ∧ p = nI n ∧ p.toInt = n := by
  refine ⟨p.toInt.toNat, by have := Int32.toInt_lt p; omega, ?_, by omega⟩
  apply Int32.toInt_inj.mp
  rw [nI_toInt (by have := Int32.toInt_lt p; omega)]
  omega
theorem r_lim {p : Int32} {k : Nat} {hi : Int64} {Q : Int32 → ct_M → Prop} {m : ct_M} (hk : k < 2 ^ 31) (hh : hi.toInt = (k : Int) - 1) (h1 : ∀ c : Nat, c < k → p = nI c → Q 1 m) (h0 : (∀ c : Nat, c < k → ¬ p = nI c) → Q 0 m) : wp_X12_in p.toInt64 (0 : Int64) hi Q m := by
  have z : (0 : Int64).toInt = 0 := rfl
  refine r_in (fun a b => ?_) (fun a => ?_)
  · rw [Int32.toInt_toInt64] at a b
    rw [z] at a
    obtain ⟨n, hn, e, e2⟩ := i32_nI a
    exact h1 n (by omega) e
  · rw [Int32.toInt_toInt64, z] at a
    refine h0 fun c hc e => a ?_
    rw [e, nI_toInt (by omega)]
    omega
theorem r_noCell {p : Int32} {Q : Int32 → ct_M → Prop} {m : ct_M} (h1 : ∀ c : Nat, c < 6 → p = nI c → Q 0 m) (h0 : (∀ c : Nat, c < 6 → ¬ p = nI c) → Q 1 m) : wp_X12_noCell p Q m := by
  unfold wp_X12_noCell
  refine r_lim (k := 6) (by decide) rfl (fun c hc e => ⟨fun _ => h1 c hc e, fun e => absurd e (by decide)⟩) (fun e => ⟨fun e => absurd rfl e, fun _ => h0 e⟩)
theorem r_noThread {p : Int32} {T : Nat} {Q : Int32 → ct_M → Prop} {m : ct_M} (hT : T ≤ 3) (hT0 : 0 < T) (hm : m.1 1023 4 = nI T) (h1 : ∀ t : Nat, t < T → p = nI t → Q 0 m) (h0 : (∀ t : Nat, t < T → ¬ p = nI t) → Q 1 m) : wp_X12_noThread 1023 p Q m := by
  unfold wp_X12_noThread
  rw [hm]
  refine r_lim (k := T) (by omega) ?_ (fun c hc e => ⟨fun _ => h1 c hc e, fun e => absurd e (by decide)⟩) (fun e => ⟨fun e => absurd rfl e, fun _ => h0 e⟩)
  rw [Int32.toInt_toInt64]
  have := nI_pred (T - 1)
  rw [show T - 1 + 1 = T by omega] at this
  rw [this, nI_toInt (by omega)]
  omega
theorem c_isCell' {p : Int32} {Q : Int32 → ct_M → Prop} {m : ct_M} (h1 : ∀ c : Nat, c < 6 → p = nI c → Q 1 m) (h0 : (∀ c : Nat, c < 6 → ¬ p = nI c) → Q 0 m) : wp_X11_isCell p Q m := by
  by_cases e : ∃ c : Nat, c < 6 ∧ p = nI c
  · obtain ⟨c, hc, e⟩ := e
    rw [e]; exact c_isCell hc (h1 c hc e)
  · have h0 := h0 fun c hc z => e ⟨c, hc, z⟩
    unfold wp_X11_isCell
    refine ⟨fun _ => h0, fun e1 => ⟨fun _ => h0, fun e2 => ?_⟩⟩
    exfalso
    obtain ⟨n, hn, en⟩ := nI_of e1
    have : ¬ 6 ≤ n := fun z => e2 (by rw [en]; exact (cmp_le (a := 6) (by decide) hn).mpr z)
    exact e ⟨n, by omega, en⟩
theorem c_hasThread {b T : Nat} {p : Int32} {Q : Int32 → ct_M → Prop} {m : ct_M} (hT : T ≤ 3) (hm : m.1 b 3 = nI T) (h1 : ∀ t : Nat, t < T → p = nI t → Q 1 m) (h0 : (∀ t : Nat, t < T → ¬ p = nI t) → Q 0 m) : wp_X10_hasThread b p Q m := by
  unfold wp_X10_hasThread
  rw [hm]
  by_cases e : ∃ t : Nat, t < T ∧ p = nI t
  · obtain ⟨t, ht, e⟩ := e
    have h1 := h1 t ht e
    rw [e]
    simp (disch := omega) only [nI_ofNat, cmp_le]
    exact ⟨fun _ => absurd ‹_› (nI_pos (by omega)), fun _ => ⟨fun e => absurd e (by omega), fun _ => ⟨fun e => absurd e (by omega), fun _ => h1⟩⟩⟩
  · have h0 := h0 fun c hc z => e ⟨c, hc, z⟩
    refine ⟨fun _ => h0, fun e1 => ⟨fun _ => h0, fun e2 => ⟨fun _ => h0, fun e3 => ?_⟩⟩⟩
    exfalso
    obtain ⟨n, hn, en⟩ := nI_of e1
    rw [en, cmp_le (by omega) hn] at e2
    exact e ⟨n, by omega, en⟩
theorem V_int {p : Int32} : V p ↔ -99 ≤ p.toInt ∧ p.toInt ≤ 99 := by
  unfold V
  rw [Int32.le_iff_toInt_le, Int32.le_iff_toInt_le]
  exact Iff.rfl
theorem r_isV {p : Int32} {Q : Int32 → ct_M → Prop} {m : ct_M} (h1 : V p → Q 1 m) (h0 : ¬ V p → Q 0 m) : wp_X12_in p.toInt64 (-99 : Int64) (99 : Int64) Q m := by
  refine r_in (fun a b => h1 (V_int.mpr ?_)) (fun a => h0 fun z => a ?_)
  · rw [Int32.toInt_toInt64] at a b
    exact ⟨a, b⟩
  · rw [Int32.toInt_toInt64]
    exact V_int.mp z
theorem c_isV {p : Int32} {Q : Int32 → ct_M → Prop} {m : ct_M} (h1 : V p → Q 1 m) (h0 : ¬ V p → Q 0 m) : wp_X11_isValue p Q m := by
  unfold wp_X11_isValue
  have h3 : ∀ a b : Int32, a < b ↔ a.toInt < b.toInt := fun a b => Int32.lt_iff_toInt_lt
  have h4 : (-99 : Int32).toInt = -99 := rfl
  have h5 : (99 : Int32).toInt = 99 := rfl
  simp only [h3, h4, h5]
  exact ⟨fun e => h0 fun z => by have := V_int.mp z; omega, fun e => ⟨fun e2 => h0 fun z => by have := V_int.mp z; omega, fun e2 => h1 (V_int.mpr (by omega))⟩⟩
theorem r_at' {t : Nat} {Q : Int32 → ct_M → Prop} {m : ct_M} (h : Q (nI (25 + 49 * t)) m) : wp_X12_at (nI t) Q m := r_at h
theorem ln1030 : ct_ln (1023 + 7) = 172 := by decide
theorem ln29 : ct_ln (0 + 26 + 3) = 3 := by decide
/-- how the law compares two answers -/
def Same (K : ct_M → Prop) (r r' : Int32) (m : ct_M) : Prop := (r = r' → K m) ∧ (¬ r = r' → False)
theorem Same.mk {K : ct_M → Prop} {r : Int32} {m : ct_M} (h : K m) : Same K r r m := ⟨fun _ => h, fun e => absurd rfl e⟩
