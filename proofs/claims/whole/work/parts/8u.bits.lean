/-! longs as numbers (the wb_ and pf_ rows began as rows of the laws' BITS text) -/
theorem wb_tb (n : Nat) : (lN n).toBitVec = BitVec.ofNat 64 n := rfl
theorem wb_inj {a b : Int64} (h : a.toBitVec = b.toBitVec) : a = b := Int64.toBitVec_inj.mp h
theorem wb_tn {n : Nat} (h : n < 2 ^ 64) : (lN n).toBitVec.toNat = n := by rw [wb_tb, BitVec.toNat_ofNat, Nat.mod_eq_of_lt h]
theorem wb_of (x : Int64) : ∃ n, n < 2 ^ 64 ∧ x = lN n := ⟨x.toBitVec.toNat, x.toBitVec.isLt, wb_inj (by rw [wb_tb]; simp)⟩
theorem wb_c : ∀ k, k < 64 → ((nI k).toInt64 &&& 63) = lN k := by decide +kernel
theorem wb_cu : ∀ k, k < 64 → ((nI k).toInt64.toUInt64 &&& Int64.toUInt64 63) = UInt64.ofNat k := by decide +kernel
theorem wb_sm : ∀ k, k < 64 → (BitVec.ofNat 64 k).smod 64 = BitVec.ofNat 64 k := by decide +kernel
theorem wb_pw {a b : Nat} (h : a ≤ b) : 2 ^ b = 2 ^ a * 2 ^ (b - a) := by rw [← Nat.pow_add]; congr 1; omega
theorem wb_lt2 {a b : Nat} (h : a < b) : 2 ^ a < 2 ^ b := Nat.pow_lt_pow_right (by decide) h
theorem wb_shr {n k : Nat} (hn : n < 2 ^ 64) (hk : k < 64) : ((lN n).toUInt64 >>> ((nI k).toInt64.toUInt64 &&& Int64.toUInt64 63)).toInt64 = lN (n / 2 ^ k) := by
  rw [wb_cu k hk]
  apply wb_inj
  apply BitVec.eq_of_toNat_eq
  show ((lN n).toUInt64 >>> UInt64.ofNat k).toNat = (BitVec.ofNat 64 _).toNat
  have h1 : (UInt64.ofNat k).toNat = k := by
    show (BitVec.ofNat 64 k).toNat = k
    rw [BitVec.toNat_ofNat, Nat.mod_eq_of_lt (by omega)]
  have h2 : (lN n).toUInt64.toNat = n := wb_tn hn
  rw [UInt64.toNat_shiftRight, h1, h2, Nat.mod_eq_of_lt hk, Nat.shiftRight_eq_div_pow, BitVec.toNat_ofNat, Nat.mod_eq_of_lt (Nat.lt_of_le_of_lt (Nat.div_le_self _ _) hn)]
theorem wb_shl (n : Nat) {k : Nat} (hk : k < 64) : lN n <<< ((nI k).toInt64 &&& 63) = lN (n * 2 ^ k) := by
  rw [wb_c k hk]
  apply wb_inj
  rw [Int64.toBitVec_shiftLeft, wb_tb, wb_tb, wb_tb, wb_sm k hk]
  apply BitVec.eq_of_toNat_eq
  rw [BitVec.shiftLeft_eq', BitVec.toNat_shiftLeft, BitVec.toNat_ofNat, BitVec.toNat_ofNat, BitVec.toNat_ofNat, Nat.mod_eq_of_lt (show k < 2 ^ 64 by omega), Nat.shiftLeft_eq, Nat.mul_mod, Nat.mod_mod, ← Nat.mul_mod]
theorem wb_and {a b : Nat} (ha : a < 2 ^ 64) (hb : b < 2 ^ 64) : lN a &&& lN b = lN (a &&& b) := by
  apply wb_inj
  rw [Int64.toBitVec_and, wb_tb, wb_tb, wb_tb]
  apply BitVec.eq_of_toNat_eq
  rw [BitVec.toNat_and, BitVec.toNat_ofNat, BitVec.toNat_ofNat, BitVec.toNat_ofNat, Nat.mod_eq_of_lt ha, Nat.mod_eq_of_lt hb, Nat.mod_eq_of_lt (Nat.and_lt_two_pow _ hb)]
theorem wb_or {a b : Nat} (ha : a < 2 ^ 64) (hb : b < 2 ^ 64) : lN a ||| lN b = lN (a ||| b) := by
  apply wb_inj
  rw [Int64.toBitVec_or, wb_tb, wb_tb, wb_tb]
  apply BitVec.eq_of_toNat_eq
  rw [BitVec.toNat_or, BitVec.toNat_ofNat, BitVec.toNat_ofNat, BitVec.toNat_ofNat, Nat.mod_eq_of_lt ha, Nat.mod_eq_of_lt hb, Nat.mod_eq_of_lt (Nat.or_lt_two_pow ha hb)]
theorem wb_mask {n k : Nat} (hn : n < 2 ^ 64) (hk : k < 64) : lN n &&& lN (2 ^ k - 1) = lN (n % 2 ^ k) := by
  rw [wb_and hn (by have := wb_lt2 hk; omega), Nat.and_two_pow_sub_one_eq_mod]
theorem pf_lI {a : Nat} (h : a < 2 ^ 63) : (lN a).toInt = (a : Int) := lg_ofNat_toInt h
theorem pf_shr {a d : Nat} {D : Int64} (hD : (D.toBitVec.smod 64).toNat = d) (h : a < 2 ^ 62) : lN a >>> D = lN (a / 2 ^ d) := by
  have hd : a / 2 ^ d ≤ a := Nat.div_le_self _ _
  apply Int64.toInt_inj.mp
  have e : (lN a >>> D).toInt = (lN a).toInt >>> d := by
    rw [← hD]
    exact BitVec.toInt_sshiftRight ..
  rw [e, Int.shiftRight_eq_div_pow, pf_lI (by omega), pf_lI (by omega)]
  rfl
theorem and_split {k H L M1 M2 : Nat} (hL : L < 2 ^ k) (hM : M2 < 2 ^ k) : (2 ^ k * H + L) &&& (2 ^ k * M1 + M2) = 2 ^ k * (H &&& M1) + (L &&& M2) := by
  have hlm : L &&& M2 < 2 ^ k := Nat.and_lt_two_pow _ hM
  apply Nat.eq_of_testBit_eq
  intro j
  rw [Nat.testBit_and, Nat.testBit_two_pow_mul_add _ hL, Nat.testBit_two_pow_mul_add _ hM, Nat.testBit_two_pow_mul_add _ hlm]
  by_cases h : j < k
  · simp [h]
  · simp [h]
theorem or_split {k H L M1 M2 : Nat} (hL : L < 2 ^ k) (hM : M2 < 2 ^ k) : (2 ^ k * H + L) ||| (2 ^ k * M1 + M2) = 2 ^ k * (H ||| M1) + (L ||| M2) := by
  have hlm : L ||| M2 < 2 ^ k := Nat.or_lt_two_pow hL hM
  apply Nat.eq_of_testBit_eq
  intro j
  rw [Nat.testBit_or, Nat.testBit_two_pow_mul_add _ hL, Nat.testBit_two_pow_mul_add _ hM, Nat.testBit_two_pow_mul_add _ hlm]
  by_cases h : j < k
  · simp [h]
  · simp [h]
theorem lN_inj {a b : Nat} (ha : a < 2 ^ 62) (hb : b < 2 ^ 62) : lN a = lN b ↔ a = b := by
  constructor
  · intro h
    have : (lN a).toBitVec.toNat = (lN b).toBitVec.toNat := by rw [h]
    rw [wb_tn (by omega), wb_tn (by omega)] at this
    exact this
  · intro h; rw [h]
theorem lg_eq {x y : Int64} : lg_cmp x y = 0 ↔ x = y := by
  unfold lg_cmp
  constructor
  · intro h
    by_cases c : x > y
    · rw [if_pos c] at h; exact absurd h (by decide)
    · rw [if_neg c] at h
      by_cases e : x = y
      · exact e
      · rw [if_neg e] at h; exact absurd h (by decide)
  · intro h
    subst h
    rw [if_neg (by rw [gt_iff_lt, Int64.lt_iff_toInt_lt]; omega), if_pos rfl]
theorem lN_mi {a b : Nat} (h : b ≤ a) : lN a - lN b = lN (a - b) := (Int64.ofNat_sub a b h).symm
theorem lN_sh {n k : Nat} (hn : n < 2 ^ 62) (hk : k < 64) : lN n >>> ((nI k).toInt64 &&& 63) = lN (n / 2 ^ k) := by
  refine pf_shr ?_ hn
  rw [wb_c k hk, wb_tb, wb_sm k hk, BitVec.toNat_ofNat]
  exact Nat.mod_eq_of_lt (by omega)
theorem lN_to32 {n : Nat} (h : n < 2 ^ 31) : (lN n).toInt32 = nI n := by
  apply Int32.toInt_inj.mp
  rw [Int64.toInt_toInt32, pf_lI (by omega), nI_toInt h]
  exact Int.bmod_eq_of_le (by omega) (by omega)
theorem lN_field {n k : Nat} (hn : n < 2 ^ 62) (hk : k < 64) (w : Nat) (hw : w < 16) : ((lN n >>> ((nI k).toInt64 &&& 63)) &&& lN (2 ^ w - 1)).toInt32 = nI (n / 2 ^ k % 2 ^ w) := by
  have h2 : 2 ^ w < 2 ^ 16 := Nat.pow_lt_pow_right (by decide) hw
  have h3 : 0 < 2 ^ w := Nat.pos_of_ne_zero (by simp)
  rw [lN_sh hn hk, wb_mask (by have := Nat.div_le_self n (2 ^ k); omega) (by omega)]
  refine lN_to32 ?_
  have := Nat.mod_lt (n / 2 ^ k) h3
  omega
/-- values: six places of 256 -/
def dg (a c : Nat) : Nat := a / 256 ^ c % 256
def pk6 (X : Nat → Nat) : Nat := X 0 + 256 * (X 1 + 256 * (X 2 + 256 * (X 3 + 256 * (X 4 + 256 * X 5))))
theorem dg_pk {X : Nat → Nat} (h : ∀ c, c < 6 → X c < 256) : ∀ c, c < 6 → dg (pk6 X) c = X c := by
  have h0 := h 0 (by omega)
  have h1 := h 1 (by omega)
  have h2 := h 2 (by omega)
  have h3 := h 3 (by omega)
  have h4 := h 4 (by omega)
  have h5 := h 5 (by omega)
  have e : ∀ x y : Nat, x < 256 → (x + 256 * y) / 256 = y ∧ (x + 256 * y) % 256 = x := fun x y hx => by omega
  have nx : ∀ (a c : Nat), dg a (c + 1) = dg (a / 256) c := fun a c => by
    unfold dg
    rw [Nat.pow_succ, Nat.mul_comm, ← Nat.div_div_eq_div_mul]
  have z : ∀ a, dg a 0 = a % 256 := fun a => by unfold dg; rw [Nat.pow_zero, Nat.div_one]
  intro c hc
  unfold pk6
  have : c = 0 ∨ c = 1 ∨ c = 2 ∨ c = 3 ∨ c = 4 ∨ c = 5 := by omega
  rcases this with y | y | y | y | y | y <;> subst y
  · rw [z, (e _ _ h0).2]
  · rw [nx, (e _ _ h0).1, z, (e _ _ h1).2]
  · rw [nx, (e _ _ h0).1, nx, (e _ _ h1).1, z, (e _ _ h2).2]
  · rw [nx, (e _ _ h0).1, nx, (e _ _ h1).1, nx, (e _ _ h2).1, z, (e _ _ h3).2]
  · rw [nx, (e _ _ h0).1, nx, (e _ _ h1).1, nx, (e _ _ h2).1, nx, (e _ _ h3).1, z, (e _ _ h4).2]
  · rw [nx, (e _ _ h0).1, nx, (e _ _ h1).1, nx, (e _ _ h2).1, nx, (e _ _ h3).1, nx, (e _ _ h4).1, z]; omega
theorem pk6_lt {X : Nat → Nat} (h : ∀ c, c < 6 → X c < 256) : pk6 X < 281474976710656 := by
  have h0 := h 0 (by omega)
  have h1 := h 1 (by omega)
  have h2 := h 2 (by omega)
  have h3 := h 3 (by omega)
  have h4 := h 4 (by omega)
  have h5 := h 5 (by omega)
  unfold pk6
  omega
/-- the reference's order of the values, each with 1 more -/
def rV (X : Nat → Nat) : Nat := ((((((X 0 + 1) * 256 + (X 1 + 1)) * 256 + (X 2 + 1)) * 256 + (X 3 + 1)) * 256 + (X 4 + 1)) * 256 + (X 5 + 1))
theorem rV_lt {X : Nat → Nat} (h : ∀ c, c < 6 → X c ≤ 198) : rV X < 281474976710656 := by
  have h0 := h 0 (by omega)
  have h1 := h 1 (by omega)
  have h2 := h 2 (by omega)
  have h3 := h 3 (by omega)
  have h4 := h 4 (by omega)
  have h5 := h 5 (by omega)
  unfold rV
  omega
theorem rV_dg {X : Nat → Nat} (h : ∀ c, c < 6 → X c ≤ 198) : ∀ c, c < 6 → rV X / 256 ^ (5 - c) % 256 = X c + 1 := by
  have h0 := h 0 (by omega)
  have h1 := h 1 (by omega)
  have h2 := h 2 (by omega)
  have h3 := h 3 (by omega)
  have h4 := h 4 (by omega)
  have h5 := h 5 (by omega)
  have e : ∀ x y : Nat, y ≤ 198 → (x * 256 + (y + 1)) / 256 = x ∧ (x * 256 + (y + 1)) % 256 = y + 1 := fun x y hx => by omega
  have nx : ∀ (a c : Nat), a / 256 ^ (c + 1) % 256 = (a / 256) / 256 ^ c % 256 := fun a c => by
    rw [Nat.pow_succ, Nat.mul_comm, ← Nat.div_div_eq_div_mul]
  have z : ∀ a : Nat, a / 256 ^ 0 % 256 = a % 256 := fun a => by rw [Nat.pow_zero, Nat.div_one]
  intro c hc
  unfold rV
  have : c = 5 ∨ c = 4 ∨ c = 3 ∨ c = 2 ∨ c = 1 ∨ c = 0 := by omega
  rcases this with y | y | y | y | y | y <;> subst y
  · rw [show 5 - 5 = 0 from rfl, z, (e _ _ h5).2]
  · rw [show 5 - 4 = 0 + 1 from rfl, nx, (e _ _ h5).1, z, (e _ _ h4).2]
  · rw [show 5 - 3 = 0 + 1 + 1 from rfl, nx, (e _ _ h5).1, nx, (e _ _ h4).1, z, (e _ _ h3).2]
  · rw [show 5 - 2 = 0 + 1 + 1 + 1 from rfl, nx, (e _ _ h5).1, nx, (e _ _ h4).1, nx, (e _ _ h3).1, z, (e _ _ h2).2]
  · rw [show 5 - 1 = 0 + 1 + 1 + 1 + 1 from rfl, nx, (e _ _ h5).1, nx, (e _ _ h4).1, nx, (e _ _ h3).1, nx, (e _ _ h2).1, z, (e _ _ h1).2]
  · rw [show 5 - 0 = 0 + 1 + 1 + 1 + 1 + 1 from rfl, nx, (e _ _ h5).1, nx, (e _ _ h4).1, nx, (e _ _ h3).1, nx, (e _ _ h2).1, nx, (e _ _ h1).1, z]; omega
