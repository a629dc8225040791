/-! a point of a schedule: a the values, q what the threads are at (16ths, the first the highest); the reference's number and the class's -/
def sT (q t : Nat) : Nat := q / 16 ^ (2 - t) % 16
def qS (s : Nat → Nat) : Nat := (s 0 * 16 + s 1) * 16 + s 2
theorem sT_3 (q : Nat) : sT q 0 = q / 256 % 16 ∧ sT q 1 = q / 16 % 16 ∧ sT q 2 = q % 16 := by
  refine ⟨rfl, rfl, ?_⟩
  show q / 1 % 16 = _
  rw [Nat.div_one]
theorem sT_qS {s : Nat → Nat} (h : ∀ t, t < 3 → s t < 16) : ∀ t, t < 3 → sT (qS s) t = s t := by
  have h0 := h 0 (by omega)
  have h1 := h 1 (by omega)
  have h2 := h 2 (by omega)
  obtain ⟨e0, e1, e2⟩ := sT_3 (qS s)
  unfold qS at *
  intro t ht
  have : t = 0 ∨ t = 1 ∨ t = 2 := by omega
  rcases this with y | y | y <;> subst y
  · rw [e0]; omega
  · rw [e1]; omega
  · rw [e2]; omega
theorem qS_lt {s : Nat → Nat} (h : ∀ t, t < 3 → s t < 16) : qS s < 4096 := by
  have h0 := h 0 (by omega)
  have h1 := h 1 (by omega)
  have h2 := h 2 (by omega)
  unfold qS; omega
theorem sT_lt (q t : Nat) : sT q t < 16 := Nat.mod_lt _ (by decide)
theorem qS_sT {q : Nat} (h : q < 4096) : qS (sT q) = q := by
  obtain ⟨e0, e1, e2⟩ := sT_3 q
  unfold qS
  rw [e0, e1, e2]; omega
theorem q_ext {q q' : Nat} (h : q < 4096) (h' : q' < 4096) (e : ∀ t, t < 3 → sT q t = sT q' t) : q = q' := by
  rw [← qS_sT h, ← qS_sT h']
  unfold qS
  rw [e 0 (by omega), e 1 (by omega), e 2 (by omega)]
/-! the reference's number -/
def rcode (a q : Nat) : Nat := 4096 * rV (dg a) + q
theorem rcode_lt {a q : Nat} (ha : ∀ c, c < 6 → dg a c ≤ 198) (hq : q < 4096) : rcode a q < 2 ^ 61 := by
  have := rV_lt ha
  unfold rcode; omega
theorem rc_thread {a q t : Nat} (ha : ∀ c, c < 6 → dg a c ≤ 198) (hq : q < 4096) (ht : t < 3) {Q : Int32 → ct_M → Prop} {m : ct_M} (h : Q (nI (sT q t)) m) : wp_X12_threadBits (lN (rcode a q)) (nI t) Q m := by
  unfold wp_X12_threadBits
  have e1 : (4 : Int32) * ((2 : Int32) - nI t) = nI (4 * (2 - t)) := (by decide : ∀ t, t < 3 → (4 : Int32) * ((2 : Int32) - nI t) = nI (4 * (2 - t))) t ht
  have e15 : (15 : Int64) = lN (2 ^ 4 - 1) := rfl
  rw [e1, e15, lN_field (by have := rcode_lt ha hq; omega) (by omega) 4 (by omega)]
  have e2 : rcode a q / 2 ^ (4 * (2 - t)) % 2 ^ 4 = sT q t := by
    obtain ⟨s0, s1, s2⟩ := sT_3 q
    unfold rcode
    have : t = 0 ∨ t = 1 ∨ t = 2 := by omega
    rcases this with y | y | y <;> subst y
    · rw [s0]; show (4096 * rV (dg a) + q) / 256 % 16 = _; omega
    · rw [s1]; show (4096 * rV (dg a) + q) / 16 % 16 = _; omega
    · rw [s2]; show (4096 * rV (dg a) + q) / 1 % 16 = _; omega
  rw [e2]; exact h
theorem rc_div {a q k : Nat} (hq : q < 4096) : rcode a q / 2 ^ (12 + k) = rV (dg a) / 2 ^ k := by
  rw [Nat.pow_add, ← Nat.div_div_eq_div_mul]
  congr 1
  unfold rcode
  show (4096 * rV (dg a) + q) / 4096 = _
  omega
theorem nI_100 {x : Nat} (h : x ≤ 198) : nI (x + 1) - (100 : Int32) = nI x - 99 := by
  apply Int32.toInt_inj.mp
  rw [v99_toInt h, Int32.toInt_sub, nI_toInt (by omega), show (100 : Int32).toInt = 100 from rfl]
  rw [Int.bmod_eq_of_le (by omega) (by omega)]
  omega
theorem rc_value {a q c : Nat} (ha : ∀ c, c < 6 → dg a c ≤ 198) (hq : q < 4096) (hc : c < 6) {Q : Int32 → ct_M → Prop} {m : ct_M} (h : Q (nI (dg a c) - 99) m) : wp_X12_valueIn (lN (rcode a q)) (nI c) Q m := by
  unfold wp_X12_valueIn
  have e1 : (12 : Int32) + (8 : Int32) * ((5 : Int32) - nI c) = nI (12 + 8 * (5 - c)) := (by decide : ∀ c, c < 6 → (12 : Int32) + (8 : Int32) * ((5 : Int32) - nI c) = nI (12 + 8 * (5 - c))) c hc
  have e255 : (255 : Int64) = lN (2 ^ 8 - 1) := rfl
  rw [e1, e255, lN_field (by have := rcode_lt ha hq; omega) (by omega) 8 (by omega), rc_div hq]
  have e2 : rV (dg a) / 2 ^ (8 * (5 - c)) % 2 ^ 8 = dg a c + 1 := by
    rw [Nat.pow_mul]
    exact rV_dg ha c hc
  rw [e2, nI_100 (ha c hc)]; exact h
theorem rc_inj {a q a' q' : Nat} (ha : ∀ c, c < 6 → dg a c ≤ 198) (ha' : ∀ c, c < 6 → dg a' c ≤ 198) (hq : q < 4096) (hq' : q' < 4096) (h : rcode a q = rcode a' q') : (∀ c, c < 6 → dg a c = dg a' c) ∧ q = q' := by
  unfold rcode at h
  have e : rV (dg a) = rV (dg a') := by omega
  refine ⟨fun c hc => ?_, by omega⟩
  have h1 := rV_dg ha c hc
  have h2 := rV_dg ha' c hc
  rw [e, h2] at h1
  omega
theorem pk_dg {a : Nat} (h : a < 281474976710656) : pk6 (dg a) = a := by
  have d : ∀ c, dg a (c + 1) = dg (a / 256) c := fun c => by
    unfold dg
    rw [Nat.pow_succ, Nat.mul_comm, ← Nat.div_div_eq_div_mul]
  have nx : ∀ (b c : Nat), dg b (c + 1) = dg (b / 256) c := fun b c => by
    unfold dg
    rw [Nat.pow_succ, Nat.mul_comm, ← Nat.div_div_eq_div_mul]
  have z : ∀ b, dg b 0 = b % 256 := fun b => by unfold dg; rw [Nat.pow_zero, Nat.div_one]
  unfold pk6
  rw [z, nx a 0, z, nx a 1, nx _ 0, z, nx a 2, nx _ 1, nx _ 0, z, nx a 3, nx _ 2, nx _ 1, nx _ 0, z, nx a 4, nx _ 3, nx _ 2, nx _ 1, nx _ 0, z]
  have e : ∀ x : Nat, x % 256 + 256 * (x / 256) = x := fun x => Nat.mod_add_div x 256
  have l5 : a / 256 / 256 / 256 / 256 / 256 < 256 := by omega
  rw [Nat.mod_eq_of_lt l5, e, e, e, e, e]
theorem a_ext {a a' : Nat} (h : a < 281474976710656) (h' : a' < 281474976710656) (e : ∀ c, c < 6 → dg a c = dg a' c) : a = a' := by
  rw [← pk_dg h, ← pk_dg h']
  unfold pk6
  rw [e 0 (by omega), e 1 (by omega), e 2 (by omega), e 3 (by omega), e 4 (by omega), e 5 (by omega)]
/-- an outcome's mark: no runs -/
def om (q : Nat) : Nat := q &&& 819
theorem om_s : ∀ q, q < 4096 → om q < 4096 ∧ (∀ t, t < 3 → sT (om q) t = sT q t % 4) := by
  have h : ∀ s0, s0 < 16 → ∀ s1, s1 < 16 → ∀ s2, s2 < 16 → ((s0 * 16 + s1) * 16 + s2) &&& 819 = ((s0 % 4) * 16 + s1 % 4) * 16 + s2 % 4 := by decide +kernel
  intro q hq
  obtain ⟨e0, e1, e2⟩ := sT_3 q
  have e : om q = qS fun t => sT q t % 4 := by
    unfold om
    have := h (sT q 0) (sT_lt _ _) (sT q 1) (sT_lt _ _) (sT q 2) (sT_lt _ _)
    rw [show ((sT q 0 * 16 + sT q 1) * 16 + sT q 2) = q from qS_sT hq] at this
    exact this
  have b : ∀ t, t < 3 → sT q t % 4 < 16 := fun t _ => by omega
  rw [e]
  exact ⟨qS_lt b, sT_qS b⟩
theorem rc_mask {a q : Nat} (ha : ∀ c, c < 6 → dg a c ≤ 198) (hq : q < 4096) : lN (rcode a q) &&& (-3277 : Int64) = lN (rcode a (om q)) := by
  have e1 : (-3277 : Int64) = lN (2 ^ 12 * (2 ^ 52 - 1) + 819) := by decide +kernel
  have hv := rV_lt ha
  rw [e1, wb_and (by have := rcode_lt ha hq; omega) (by decide)]
  have e2 : rcode a q &&& (2 ^ 12 * (2 ^ 52 - 1) + 819) = 2 ^ 12 * (rV (dg a) &&& (2 ^ 52 - 1)) + (q &&& 819) := and_split (k := 12) (by omega) (by decide)
  rw [e2, Nat.and_two_pow_sub_one_eq_mod, Nat.mod_eq_of_lt (by omega)]
  rfl
theorem rc_blocked {a q : Nat} (ha : ∀ c, c < 6 → dg a c ≤ 198) (hq : q < 4096) : lN (rcode a q) &&& (273 : Int64) = 0 ↔ ∀ t, t < 3 → sT q t % 2 = 0 := by
  have e1 : (273 : Int64) = lN (2 ^ 12 * 0 + 273) := by decide +kernel
  rw [e1, wb_and (by have := rcode_lt ha hq; omega) (by decide)]
  have e2 : rcode a q &&& (2 ^ 12 * 0 + 273) = 2 ^ 12 * (rV (dg a) &&& 0) + (q &&& 273) := and_split (k := 12) (by omega) (by decide)
  rw [e2, Nat.and_zero, Nat.mul_zero, Nat.zero_add]
  have h : ∀ s0, s0 < 16 → ∀ s1, s1 < 16 → ∀ s2, s2 < 16 → (((s0 * 16 + s1) * 16 + s2) &&& 273 = 0 ↔ s0 % 2 = 0 ∧ s1 % 2 = 0 ∧ s2 % 2 = 0) := by decide +kernel
  have h2 := h (sT q 0) (sT_lt _ _) (sT q 1) (sT_lt _ _) (sT q 2) (sT_lt _ _)
  rw [show ((sT q 0 * 16 + sT q 1) * 16 + sT q 2) = q from qS_sT hq] at h2
  have h3 : lN (q &&& 273) = 0 ↔ q &&& 273 = 0 := lN_inj (b := 0) (by have : q &&& 273 ≤ 273 := Nat.and_le_right; omega) (by decide)
  rw [h3, h2]
  constructor
  · intro ⟨a1, a2, a3⟩ t ht
    have : t = 0 ∨ t = 1 ∨ t = 2 := by omega
    rcases this with y | y | y <;> subst y <;> assumption
  · intro z
    exact ⟨z 0 (by omega), z 1 (by omega), z 2 (by omega)⟩
