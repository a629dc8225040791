/-! what a transaction of thread t comes to, from values X (each with 99 added) -/
def vK (v0 : Row) (X : Nat → Nat) (t : Nat) : Row := fun i => if i < 6 then nI (X i) - 99 else if 12 ≤ i ∧ i < 25 then v0 i else if i = rAt t + 47 then 1 else 0
noncomputable def txO (G : Prg) (T : Nat) (v0 : Row) (X : Nat → Nat) (t : Nat) : Out := fSolo G T t 60 (vK v0 X t) 0
noncomputable def txV (G : Prg) (T : Nat) (v0 : Row) (X : Nat → Nat) (t c : Nat) : Nat := ((txO G T v0 X t).2.1 c + 99).toNatClampNeg
theorem v99_toInt {k : Nat} (h : k ≤ 198) : (nI k - (99 : Int32)).toInt = (k : Int) - 99 := by
  rw [Int32.toInt_sub, nI_toInt (by omega), show (99 : Int32).toInt = 99 from rfl]
  exact Int.bmod_eq_of_le (by omega) (by omega)
theorem V_iff {x : Int32} : V x ↔ -99 ≤ x.toInt ∧ x.toInt ≤ 99 := by
  unfold V
  rw [Int32.le_iff_toInt_le, Int32.le_iff_toInt_le]
  exact Iff.rfl
theorem V_99 {k : Nat} (h : k ≤ 198) : V (nI k - 99) := by
  rw [V_iff, v99_toInt h]; omega
theorem V_back {x : Int32} (h : V x) : (x + 99).toNatClampNeg ≤ 198 ∧ x = nI (x + 99).toNatClampNeg - 99 := by
  rw [V_iff] at h
  have e : (x + (99 : Int32)).toInt = x.toInt + 99 := by
    rw [Int32.toInt_add, show (99 : Int32).toInt = 99 from rfl]
    exact Int.bmod_eq_of_le (by omega) (by omega)
  have e2 : (x + (99 : Int32)).toNatClampNeg = (x.toInt + 99).toNat := by
    show (x + (99 : Int32)).toInt.toNat = _
    rw [e]
  rw [e2]
  refine ⟨by omega, ?_⟩
  apply Int32.toInt_inj.mp
  rw [v99_toInt (by omega)]
  omega
theorem V_inj {k l : Nat} (hk : k ≤ 198) (hl : l ≤ 198) (h : nI k - (99 : Int32) = nI l - 99) : k = l := by
  have := congrArg Int32.toInt h
  rw [v99_toInt hk, v99_toInt hl] at this
  omega
/-- a row on which thread t starts -/
def Stt (v0 : Row) (X : Nat → Nat) (t : Nat) (v : Row) : Prop := (∀ c, c < 6 → v c = nI (X c) - 99) ∧ (∀ i, 12 ≤ i → i < 25 → v i = v0 i) ∧ (∀ j, j < 47 → v (rAt t + j) = 0) ∧ (∀ c, c < 6 → ∃ q : Nat, q < 2 ^ 29 ∧ v (6 + c) = nI q) ∧ ∃ r : Nat, 0 < r ∧ r ≤ 2 ∧ v (rAt t + 47) = nI r
theorem Stt_SO {G : Prg} {t n : Nat} {dp : Nat → Nat} {v0 v : Row} {X : Nat → Nat} (hs : PS G t n dp) (hi : ∃ k, rInvs v0 k) (hX : ∀ c, c < 6 → X c ≤ 198) (h : Stt v0 X t v) : SO G t n dp v 0 := by
  obtain ⟨h1, h2, h3, h4, r, r1, r2, r3⟩ := h
  obtain ⟨k, hi⟩ := hi
  have z1 := h3 1 (by omega)
  have z16 := h3 16 (by omega)
  refine ⟨fun c hc => by rw [h1 c hc]; exact V_99 (hX c hc), h4, ⟨k, rInvs_move hi h2⟩, TPat_zero hs z1 z16, ⟨fun j hj => ?_, fun j hj => ?_, fun j hj => ?_⟩, ⟨r, r2, r3, Or.inl ⟨?_, r1⟩⟩, ?_⟩
  · rw [h3 j (by unfold valJ at hj; omega)]; exact V0
  · rw [h3 j (by unfold mskJ at hj; omega)]; exact ⟨0, by decide, rfl⟩
  · rw [h3 j (by unfold redJ at hj; omega)]; exact ⟨0, by decide, rfl⟩
  · exact h3 0 (by omega)
  · exact h3 0 (by omega)
theorem Stt_K {v0 : Row} {X : Nat → Nat} {t : Nat} : Stt v0 X t (vK v0 X t) := by
  have hr : rAt t = 25 + 49 * t := rfl
  refine ⟨fun c hc => if_pos hc, fun i i1 i2 => ?_, fun j hj => ?_, fun c hc => ⟨0, by decide, ?_⟩, 1, by decide, by decide, ?_⟩
  · unfold vK; rw [if_neg (by omega), if_pos ⟨i1, i2⟩]
  · unfold vK; rw [if_neg (by omega), if_neg (by omega), if_neg (by omega)]
  · unfold vK; rw [if_neg (by omega), if_neg (by omega), if_neg (by omega)]; rfl
  · unfold vK; rw [if_neg (by omega), if_neg (by omega), if_pos rfl]; rfl
theorem Stt_ls {v0 v v' : Row} {X : Nat → Nat} {t : Nat} (h : Stt v0 X t v) (h' : Stt v0 X t v') : lsS t v v' := by
  obtain ⟨h1, h2, h3, -⟩ := h
  obtain ⟨g1, g2, g3, -⟩ := h'
  refine ⟨fun i hi => ?_, fun c hc => Or.inl ⟨by rw [Nat.add_assoc]; exact h3 _ (by omega), by rw [Nat.add_assoc]; exact g3 _ (by omega)⟩⟩
  rcases hi with z | z | z | z
  · rw [g1 i z, h1 i z]
  · rw [g2 i z.1 z.2, h2 i z.1 z.2]
  · obtain ⟨j, e⟩ : ∃ j, i = rAt t + j := ⟨i - rAt t, by omega⟩
    subst e
    rw [g3 j (by omega), h3 j (by omega)]
  · obtain ⟨j, e⟩ : ∃ j, i = rAt t + j := ⟨i - rAt t, by omega⟩
    subst e
    rw [g3 j (by omega), h3 j (by omega)]
/-- how it ends, in the words of X -/
def TxEnd (G : Prg) (T : Nat) (v0 : Row) (X : Nat → Nat) (t : Nat) (v : Row) (o : Out) : Prop := o.1 = (txO G T v0 X t).1 ∧
  ((o.1 = 1 ∧ (∀ c, c < 6 → o.2.1 c = nI (txV G T v0 X t c) - 99 ∧ o.2.1 (6 + c) = v (6 + c) + rBit (txO G T v0 X t).2.2 c) ∧ o.2.2 = (txO G T v0 X t).2.2 ∧ ∀ s, s < 3 → o.2.1 (rAt s + 47) = if s = t then v (rAt t + 47) - 1 else v (rAt s + 47)) ∨
   ((o.1 = 3 ∨ o.1 = 4) ∧ apart t v o.2.1))
theorem tx_end {G : Prg} {T t n : Nat} {dp : Nat → Nat} {v0 v : Row} {X : Nat → Nat} {w : Int32} (hs : PS G t n dp) (ht : t < 3) (hi : ∃ k, rInvs v0 k) (hX : ∀ c, c < 6 → X c ≤ 198) (h : Stt v0 X t v) : TxEnd G T v0 X t v (fSolo G T t 60 v w) ∧ ((txO G T v0 X t).1 = 1 → (∀ c, c < 6 → txV G T v0 X t c ≤ 198) ∧ ∃ x : Nat, x < 64 ∧ (txO G T v0 X t).2.2 = nI x) := by
  have hr : rAt t = 25 + 49 * t := rfl
  have n6 := hs.1
  obtain ⟨uK, u, hl, hc, fK, f⟩ := ls_run (T := T) hs 59 0 (vK v0 X t) v 0 w (Stt_SO hs hi hX Stt_K) (Stt_SO hs hi hX h) (Stt_ls Stt_K h) (by omega) (by omega)
  have hc : (txO G T v0 X t).1 = (fSolo G T t 60 v w).1 := hc
  have fK : Fate T t (vK v0 X t) uK (txO G T v0 X t) := fK
  refine ⟨⟨hc.symm, ?_⟩, fun h1 => ?_⟩
  · rcases f with ⟨a1, a2, a3, a4, a5, -⟩ | ⟨a, b⟩
    · rcases fK with ⟨b1, b2, b3, b4, b5, -⟩ | ⟨b, -⟩
      · refine Or.inl ⟨a1, fun c hc2 => ⟨?_, ?_⟩, ?_, fun s hs2 => ?_⟩
        · rw [a2, rDone_val hc2]
          unfold txV
          rw [b2, rDone_val hc2]
          rw [ls_sees hc2 hl.1]
          exact (V_back (b5 c hc2)).2
        · rw [a2, rDone_ver hc2, a4 _ (by omega), b3, hl.1 _ (lsI_h (j := 9) (by omega) (by omega))]
        · rw [a3, b3, hl.1 _ (lsI_h (j := 9) (by omega) (by omega))]
        · rw [a2, rDone_runs, a4 (rAt t + 47) (by omega)]
          by_cases e : s = t
          · rw [if_pos e, if_pos e]
          · rw [if_neg e, if_neg e, a4 _ (by unfold rAt; omega)]
      · exfalso
        rw [← hc, ] at a1
        rw [a1] at b
        exact absurd b (by decide)
    · exact Or.inr ⟨a, b⟩
  · rcases fK with ⟨b1, b2, b3, b4, b5, b6⟩ | ⟨b, -⟩
    · refine ⟨fun c hc2 => ?_, ?_⟩
      · unfold txV
        rw [b2, rDone_val hc2]
        exact (V_back (b5 c hc2)).1
      · rw [b3]; exact b6
    · rw [h1] at b; exact absurd b (by decide)
