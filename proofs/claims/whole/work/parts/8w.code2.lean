/-! the reference makes a number -/
theorem lN_ad (a b : Nat) : lN a + lN b = lN (a + b) := (Int64.ofNat_add a b).symm
theorem lN_mu (a b : Nat) : lN a * lN b = lN (a * b) := (Int64.ofNat_mul a b).symm
theorem nI_64 {k : Nat} (h : k < 2 ^ 31) : (nI k).toInt64 = lN k := by
  apply Int64.toInt_inj.mp
  rw [Int32.toInt_toInt64, nI_toInt h, pf_lI (by omega)]
theorem v64 {k x : Nat} (hk : k < 2 ^ 45) (hx : x ≤ 198) : (256 : Int64) * lN k + (nI x - (99 : Int32)).toInt64 + (100 : Int64) = lN (256 * k + (x + 1)) := by
  have e1 : (256 : Int64) * lN k = lN (256 * k) := lN_mu 256 k
  have e2 : (lN (256 * k) + (nI x - (99 : Int32)).toInt64).toInt = ((256 * k : Nat) : Int) + (x : Int) - 99 := by
    rw [Int64.toInt_add, Int32.toInt_toInt64, v99_toInt hx, pf_lI (by omega)]
    rw [Int.bmod_eq_of_le (by omega) (by omega)]
    omega
  apply Int64.toInt_inj.mp
  rw [e1, Int64.toInt_add, e2, pf_lI (by omega), show (100 : Int64).toInt = 100 from rfl]
  rw [Int.bmod_eq_of_le (by omega) (by omega)]
  omega
def rVp (X : Nat → Nat) : Nat → Nat
  | 0 => 0
  | c + 1 => 256 * rVp X c + (X c + 1)
theorem rVp_6 (X : Nat → Nat) : rVp X 6 = rV X := by
  simp only [rVp, rV]; omega
theorem bit3 : ∀ F, F < 8 → ∀ t, t < 3 → (bitSet (nI F) t ↔ F / 2 ^ t % 2 = 1) := by
  have h : ∀ F, F < 8 → ∀ t, t < 3 → ((nI F >>> (nI t &&& 31)) &&& 1 = 1 ↔ F / 2 ^ t % 2 = 1) := by decide +kernel
  exact h
def stS (r : Nat → Nat) (F Bk t : Nat) : Nat := 4 * r t + 2 * (F / 2 ^ t % 2) + Bk / 2 ^ t % 2
def rQp (s : Nat → Nat) : Nat → Nat → Nat
  | _, 0 => 0
  | k, c + 1 => 16 * rQp s k c + s c
theorem r_keyOf {A F Bk : Nat} {X r : Nat → Nat} {Q : Int64 → ct_M → Prop} {m : ct_M} (hA : ct_ln A = 172) (hF : F < 8) (hB : Bk < 8) (hX : ∀ c, c < 6 → X c ≤ 198) (hr : ∀ t, t < 3 → r t ≤ 3) (h1 : ∀ c, c < 6 → m.1 A c = nI (X c) - 99) (h2 : ∀ t, t < 3 → m.1 A (rAt t + 47) = nI (r t)) (h : Q (lN (4096 * rV X + qS (stS r F Bk))) m) : wp_X12_keyOf A (nI Bk) (nI F) Q m := by
  have hv := rV_lt hX
  have thr : ∀ (n t k : Nat), t + n = 3 → k < 2 ^ 60 → (t = 0 → k = rV X) → (t = 1 → k = 16 * rV X + stS r F Bk 0) → (t = 2 → k = 16 * (16 * rV X + stS r F Bk 0) + stS r F Bk 1) → (t = 3 → k = 16 * (16 * (16 * rV X + stS r F Bk 0) + stS r F Bk 1) + stS r F Bk 2) → wb_X12_keyOf_37 Q (n + 1) A (nI Bk) (nI F) (lN k) (nI t) m := by
    intro n
    induction n with
    | zero =>
      intro t k ht hk k0 k1 k2 k3
      have : t = 3 := by omega
      subst this
      unfold wb_X12_keyOf_37
      refine ⟨fun _ => ?_, fun z => absurd (by decide) z⟩
      have e : k = 4096 * rV X + qS (stS r F Bk) := by rw [k3 rfl]; unfold qS; omega
      rw [e]; exact h
    | succ n ih =>
      intro t k ht hk k0 k1 k2 k3
      have ht3 : t < 3 := by omega
      have hrt := hr t ht3
      have sb : ∀ u, u < 3 → stS r F Bk u < 16 := fun u hu => by have := hr u hu; unfold stS; omega
      unfold wb_X12_keyOf_37 wp_X12_at
      refine ⟨fun z => absurd ((cmp_le (a := 3) (by decide) (by omega)).mp z) (by omega), fun _ => ?_⟩
      simp (disch := omega) only [nI_ofNat 25, nI_ofNat 49, nI_ofNat 47, pk_mul, nI_add, vp_nI, cl, hA]
      rw [show 25 + 49 * t + 47 = rAt t + 47 from rfl, h2 t ht3, nI_ofNat 4, pk_mul, nI_64 (by omega)]
      have e16 : (16 : Int64) * lN k = lN (16 * k) := lN_mu 16 k
      rw [e16, lN_ad]
      refine ⟨by unfold rAt; omega, ?_⟩
      have nx : ∀ (x y : Int32) (f b : Nat), x = nI f → y = nI b → f = 2 * (F / 2 ^ t % 2) → b = Bk / 2 ^ t % 2 → wb_X12_keyOf_92 (wb_X12_keyOf_37 Q (n + 1)) Q A (nI Bk) (nI F) (nI t) y (lN (16 * k + 4 * r t) + x.toInt64) m := by
        intro x y f b hx hy hf hb
        unfold wb_X12_keyOf_92
        intro x1 e1 x2 e2
        rw [hx, hy, nI_64 (by omega), nI_64 (by omega), lN_ad, lN_ad] at e1
        have es : 16 * k + 4 * r t + f + b = 16 * k + stS r F Bk t := by unfold stS; omega
        rw [es] at e1
        rw [e1, e2, nI_ofNat 1, nI_add]
        have := sb t ht3
        refine ih (t + 1) _ (by omega) ?_ (fun z => by omega) (fun z => ?_) (fun z => ?_) (fun z => ?_)
        · have b0 := sb 0 (by omega)
          have b1 := sb 1 (by omega)
          have : t = 0 ∨ t = 1 ∨ t = 2 := by omega
          rcases this with y | y | y
          · have := k0 y; omega
          · have := k1 y; omega
          · have := k2 y; omega
        · have : t = 0 := by omega
          subst this
          rw [k0 rfl]
        · have : t = 1 := by omega
          subst this
          rw [k1 rfl]
        · have : t = 2 := by omega
          subst this
          rw [k2 rfl]
      have bl : ∀ (x : Int32) (f : Nat), x = nI f → f = 2 * (F / 2 ^ t % 2) → wb_X12_keyOf_76 (wb_X12_keyOf_37 Q (n + 1)) Q A (nI Bk) (nI F) (nI t) x (lN (16 * k + 4 * r t)) m := by
        intro x f hx hf
        unfold wb_X12_keyOf_76
        refine r_has (fun hb => ⟨fun z => absurd z (by decide), fun _ => nx x 1 f 1 hx rfl hf ?_⟩) (fun hb => ⟨fun _ => nx x 0 f 0 hx rfl hf ?_, fun z => absurd rfl z⟩)
        · have := (bit3 Bk hB t ht3).mp hb; omega
        · have : ¬ Bk / 2 ^ t % 2 = 1 := fun z => hb ((bit3 Bk hB t ht3).mpr z)
          omega
      refine r_has (fun hb => ⟨fun z => absurd z (by decide), fun _ => bl 2 2 rfl ?_⟩) (fun hb => ⟨fun _ => bl 0 0 rfl ?_, fun z => absurd rfl z⟩)
      · have := (bit3 F hF t ht3).mp hb; omega
      · have : ¬ F / 2 ^ t % 2 = 1 := fun z => hb ((bit3 F hF t ht3).mpr z)
        omega
  have val : ∀ (n c : Nat), c + n = 6 → rVp X c < 256 ^ c → wb_X12_keyOf_5 Q (n + 1) A (nI Bk) (nI F) (lN (rVp X c)) (nI c) m := by
    intro n
    induction n with
    | zero =>
      intro c hc hk
      have : c = 6 := by omega
      subst this
      unfold wb_X12_keyOf_5
      refine ⟨fun _ => ⟨4, ?_⟩, fun z => absurd (by decide) z⟩
      rw [rVp_6]
      exact thr 3 0 (rV X) rfl (by omega) (fun _ => rfl) (fun z => by omega) (fun z => by omega) (fun z => by omega)
    | succ n ih =>
      intro c hc hk
      have hXc := hX c (by omega)
      have hpw : 256 ^ c ≤ 256 ^ 5 := Nat.pow_le_pow_right (by decide) (by omega)
      unfold wb_X12_keyOf_5
      refine ⟨fun z => absurd ((cmp_le (a := 6) (by decide) (by omega)).mp z) (by omega), fun _ => ?_⟩
      rw [hA, cl (by omega), h1 c (by omega)]
      refine ⟨(vp_nI (by omega)).mpr (by omega), ?_⟩
      intro x3 e3 x4 e4
      rw [v64 (by omega) hXc] at e3
      rw [e3, e4, nI_ofNat 1, nI_add]
      refine ih (c + 1) (by omega) ?_
      show 256 * rVp X c + (X c + 1) < 256 ^ (c + 1)
      rw [Nat.pow_succ]; omega
  unfold wp_X12_keyOf
  exact ⟨7, val 6 0 rfl (show (0 : Nat) < 256 ^ 0 by decide)⟩
/-! the class's number -/
def rr (z : Nat → Bool) (s : Nat → Nat) (t : Nat) : Nat := if z t then 0 else s t / 4
def tauR (z : Nat → Bool) (s : Nat → Nat) : Nat := rr z s 0 + 4 * rr z s 1 + 16 * rr z s 2
def tauF (s : Nat → Nat) : Nat := s 0 / 2 % 2 + 2 * (s 1 / 2 % 2) + 4 * (s 2 / 2 % 2)
def tauB (s : Nat → Nat) : Nat := s 0 % 2 + 2 * (s 1 % 2) + 4 * (s 2 % 2)
def tau (z : Nat → Bool) (s : Nat → Nat) : Nat := 64 * (8 * tauB s + tauF s) + tauR z s
def ccode (z : Nat → Bool) (a : Nat) (s : Nat → Nat) : Nat := 2 ^ 48 * tau z s + a
theorem rr_lt {z : Nat → Bool} {s : Nat → Nat} {t : Nat} (h : s t < 16) : rr z s t < 4 := by
  unfold rr; split <;> omega
theorem tau_lt {z : Nat → Bool} {s : Nat → Nat} (h : ∀ t, t < 3 → s t < 16) : tauR z s < 64 ∧ tauF s < 8 ∧ tauB s < 8 ∧ tau z s < 4096 := by
  have h0 := rr_lt (z := z) (h 0 (by omega))
  have h1 := rr_lt (z := z) (h 1 (by omega))
  have h2 := rr_lt (z := z) (h 2 (by omega))
  unfold tau tauR tauF tauB
  omega
theorem cc_lt {z : Nat → Bool} {a : Nat} {s : Nat → Nat} (ha : a < 2 ^ 48) (h : ∀ t, t < 3 → s t < 16) : ccode z a s < 2 ^ 60 := by
  have := (tau_lt (z := z) h).2.2.2
  unfold ccode; omega
theorem cc_hi {z : Nat → Bool} {a k : Nat} {s : Nat → Nat} (ha : a < 2 ^ 48) : ccode z a s / 2 ^ (48 + k) = tau z s / 2 ^ k := by
  rw [Nat.pow_add, ← Nat.div_div_eq_div_mul]
  congr 1
  unfold ccode
  omega
theorem cc_runs {z : Nat → Bool} {a t : Nat} {s : Nat → Nat} (ha : a < 2 ^ 48) (h : ∀ t, t < 3 → s t < 16) (ht : t < 3) {Q : Int32 → ct_M → Prop} {m : ct_M} (hq : Q (nI (rr z s t)) m) : wp_X6_runsAt (lN (ccode z a s)) (nI t) Q m := by
  unfold wp_X6_runsAt
  have e3 : (3 : Int64) = lN (2 ^ 2 - 1) := rfl
  rw [nI_ofNat 48, nI_ofNat 2, pk_mul, nI_add, e3, lN_field (by have := cc_lt (z := z) ha h; omega) (by omega) 2 (by omega), cc_hi ha]
  have e2 : tau z s / 2 ^ (2 * t) % 2 ^ 2 = rr z s t := by
    have h0 := rr_lt (z := z) (h 0 (by omega))
    have h1 := rr_lt (z := z) (h 1 (by omega))
    have h2 := rr_lt (z := z) (h 2 (by omega))
    unfold tau tauR
    have : t = 0 ∨ t = 1 ∨ t = 2 := by omega
    rcases this with y | y | y <;> subst y
    · show (64 * (8 * tauB s + tauF s) + (rr z s 0 + 4 * rr z s 1 + 16 * rr z s 2)) / 1 % 4 = _; omega
    · show (64 * (8 * tauB s + tauF s) + (rr z s 0 + 4 * rr z s 1 + 16 * rr z s 2)) / 4 % 4 = _; omega
    · show (64 * (8 * tauB s + tauF s) + (rr z s 0 + 4 * rr z s 1 + 16 * rr z s 2)) / 16 % 4 = _; omega
  rw [e2]; exact hq
theorem cc_cell {z : Nat → Bool} {a c : Nat} {s : Nat → Nat} (ha : a < 2 ^ 48) (h : ∀ t, t < 3 → s t < 16) (hc : c < 6) {Q : Int32 → ct_M → Prop} {m : ct_M} (hq : Q (nI (dg a c) - 99) m) : wp_X6_cellValue (lN (ccode z a s)) (nI c) Q m := by
  unfold wp_X6_cellValue
  have e3 : (255 : Int64) = lN (2 ^ 8 - 1) := rfl
  rw [nI_ofNat 8, pk_mul, e3, lN_field (by have := cc_lt (z := z) ha h; omega) (by omega) 8 (by omega)]
  have e2 : ccode z a s / 2 ^ (8 * c) % 2 ^ 8 = dg a c := by
    rw [Nat.pow_mul]
    show ccode z a s / 256 ^ c % 256 = a / 256 ^ c % 256
    unfold ccode
    have : c = 0 ∨ c = 1 ∨ c = 2 ∨ c = 3 ∨ c = 4 ∨ c = 5 := by omega
    rcases this with y | y | y | y | y | y <;> subst y <;> omega
  rw [e2]; exact hq
theorem cc_fb {t : Nat} (ht : t < 3) : (1 : Int64) <<< (((54 : Int32) + nI t).toInt64 &&& 63) = lN (2 ^ 48 * (64 * 2 ^ t)) := (by decide +kernel : ∀ t, t < 3 → (1 : Int64) <<< (((54 : Int32) + nI t).toInt64 &&& 63) = lN (2 ^ 48 * (64 * 2 ^ t))) t ht
theorem cc_bb {t : Nat} (ht : t < 3) : (1 : Int64) <<< (((57 : Int32) + nI t).toInt64 &&& 63) = lN (2 ^ 48 * (64 * (8 * 2 ^ t))) := (by decide +kernel : ∀ t, t < 3 → (1 : Int64) <<< (((57 : Int32) + nI t).toInt64 &&& 63) = lN (2 ^ 48 * (64 * (8 * 2 ^ t)))) t ht
theorem cc_or {z : Nat → Bool} {a k : Nat} {s : Nat → Nat} (ha : a < 2 ^ 48) (h : ∀ t, t < 3 → s t < 16) (hk : k < 4096) : lN (ccode z a s) ||| lN (2 ^ 48 * k) = lN (2 ^ 48 * (tau z s ||| k) + a) := by
  rw [wb_or (by have := cc_lt (z := z) ha h; omega) (by omega)]
  have : ccode z a s ||| (2 ^ 48 * k + 0) = 2 ^ 48 * (tau z s ||| k) + (a ||| 0) := or_split (k := 48) ha (by decide)
  rw [Nat.add_zero, Nat.or_zero] at this
  rw [this]
theorem cc_and {z : Nat → Bool} {a k j : Nat} {s : Nat → Nat} (ha : a < 2 ^ 48) (h : ∀ t, t < 3 → s t < 16) (hk : k < 65536) (hj : j < 2 ^ 48) : lN (ccode z a s) &&& lN (2 ^ 48 * k + j) = lN (2 ^ 48 * (tau z s &&& k) + (a &&& j)) := by
  rw [wb_and (by have := cc_lt (z := z) ha h; omega) (by omega)]
  have : ccode z a s &&& (2 ^ 48 * k + j) = 2 ^ 48 * (tau z s &&& k) + (a &&& j) := and_split (k := 48) ha hj
  rw [this]
theorem b8 : ∀ F, F < 8 → ∀ t, t < 3 → (F / 2 ^ t % 2 = 0 → F ||| 2 ^ t = F + 2 ^ t) ∧ (F &&& 2 ^ t = 0 ↔ F / 2 ^ t % 2 = 0) := by decide +kernel
theorem tauF_t (s : Nat → Nat) : ∀ t, t < 3 → tauF s / 2 ^ t % 2 = s t / 2 % 2 := by
  intro t ht
  unfold tauF
  have : t = 0 ∨ t = 1 ∨ t = 2 := by omega
  rcases this with y | y | y <;> subst y
  · show (s 0 / 2 % 2 + 2 * (s 1 / 2 % 2) + 4 * (s 2 / 2 % 2)) / 1 % 2 = _; omega
  · show (s 0 / 2 % 2 + 2 * (s 1 / 2 % 2) + 4 * (s 2 / 2 % 2)) / 2 % 2 = _; omega
  · show (s 0 / 2 % 2 + 2 * (s 1 / 2 % 2) + 4 * (s 2 / 2 % 2)) / 4 % 2 = _; omega
theorem tauB_t (s : Nat → Nat) : ∀ t, t < 3 → tauB s / 2 ^ t % 2 = s t % 2 := by
  intro t ht
  unfold tauB
  have : t = 0 ∨ t = 1 ∨ t = 2 := by omega
  rcases this with y | y | y <;> subst y
  · show (s 0 % 2 + 2 * (s 1 % 2) + 4 * (s 2 % 2)) / 1 % 2 = _; omega
  · show (s 0 % 2 + 2 * (s 1 % 2) + 4 * (s 2 % 2)) / 2 % 2 = _; omega
  · show (s 0 % 2 + 2 * (s 1 % 2) + 4 * (s 2 % 2)) / 4 % 2 = _; omega
theorem cc_can {z : Nat → Bool} {a t : Nat} {s : Nat → Nat} (ha : a < 2 ^ 48) (h : ∀ t, t < 3 → s t < 16) (ht : t < 3) {Q : Int32 → ct_M → Prop} {m : ct_M} (h1 : 0 < rr z s t → s t % 4 = 0 → Q 1 m) (h0 : ¬ (0 < rr z s t ∧ s t % 4 = 0) → Q 0 m) : wp_X6_canRun (lN (ccode z a s)) (nI t) Q m := by
  obtain ⟨b1, b2, b3, b4⟩ := tau_lt (z := z) h
  have hp : 2 ^ t ≤ 2 ^ 2 := Nat.pow_le_pow_right (by decide) (by omega)
  unfold wp_X6_canRun
  refine cc_runs ha h ht ⟨fun e => h0 fun y => ?_, fun e => ?_⟩
  · have := (cmp_le (b := 0) (by have := rr_lt (z := z) (h t ht); omega) (by decide)).mp e
    omega
  · have hr : 0 < rr z s t := by
      refine Nat.pos_of_ne_zero fun y => e ?_
      rw [y]; decide
    unfold wp_X6_failedBit wp_X6_blockedBit
    rw [cc_fb ht, cc_bb ht]
    have e1 : lN (2 ^ 48 * (64 * 2 ^ t)) ||| lN (2 ^ 48 * (64 * (8 * 2 ^ t))) = lN (2 ^ 48 * (64 * (8 * 2 ^ t + 2 ^ t)) + 0) := (by decide +kernel : ∀ t, t < 3 → lN (2 ^ 48 * (64 * 2 ^ t)) ||| lN (2 ^ 48 * (64 * (8 * 2 ^ t))) = lN (2 ^ 48 * (64 * (8 * 2 ^ t + 2 ^ t)) + 0)) t ht
    show (¬ lg_cmp (lN (ccode z a s) &&& (lN (2 ^ 48 * (64 * 2 ^ t)) ||| lN (2 ^ 48 * (64 * (8 * 2 ^ t))))) 0 = 0 → Q 0 m) ∧ (lg_cmp (lN (ccode z a s) &&& (lN (2 ^ 48 * (64 * 2 ^ t)) ||| lN (2 ^ 48 * (64 * (8 * 2 ^ t))))) 0 = 0 → Q 1 m)
    rw [e1, cc_and ha h (by omega) (by decide), Nat.and_zero, Nat.add_zero]
    have e2 : tau z s &&& (64 * (8 * 2 ^ t + 2 ^ t)) = 64 * (8 * (tauB s &&& 2 ^ t) + (tauF s &&& 2 ^ t)) := by
      have x1 : tau z s &&& (2 ^ 6 * (8 * 2 ^ t + 2 ^ t) + 0) = 2 ^ 6 * ((8 * tauB s + tauF s) &&& (8 * 2 ^ t + 2 ^ t)) + (tauR z s &&& 0) := and_split (k := 6) (by omega) (by decide)
      have x2 : (2 ^ 3 * tauB s + tauF s) &&& (2 ^ 3 * 2 ^ t + 2 ^ t) = 2 ^ 3 * (tauB s &&& 2 ^ t) + (tauF s &&& 2 ^ t) := and_split (k := 3) (by omega) (by omega)
      rw [Nat.add_zero, Nat.and_zero, Nat.add_zero] at x1
      show tau z s &&& (2 ^ 6 * (8 * 2 ^ t + 2 ^ t)) = _
      rw [x1]
      show 64 * ((2 ^ 3 * tauB s + tauF s) &&& (2 ^ 3 * 2 ^ t + 2 ^ t)) = _
      rw [x2]
    rw [e2]
    have lb : tauB s &&& 2 ^ t ≤ tauB s := Nat.and_le_left
    have lf : tauF s &&& 2 ^ t ≤ tauF s := Nat.and_le_left
    have z0 : lN (2 ^ 48 * (64 * (8 * (tauB s &&& 2 ^ t) + (tauF s &&& 2 ^ t)))) = 0 ↔ 2 ^ 48 * (64 * (8 * (tauB s &&& 2 ^ t) + (tauF s &&& 2 ^ t))) = 0 := lN_inj (b := 0) (by omega) (by decide)
    have eF := (b8 _ b2 t ht).2
    have eB := (b8 _ b3 t ht).2
    rw [tauF_t s t ht] at eF
    rw [tauB_t s t ht] at eB
    rw [lg_eq, z0]
    refine ⟨fun y => h0 fun y2 => y ?_, fun y => h1 hr ?_⟩
    · have := y2.2
      rw [eF.mpr (by omega), eB.mpr (by omega)]
    · have w1 := eF.mp (by omega)
      have w2 := eB.mp (by omega)
      omega
theorem tau_fail {z : Nat → Bool} {s : Nat → Nat} {t : Nat} (ht : t < 3) (h4 : s t % 4 = 0) : tau z (awSet s t (s t + 2)) = tau z s + 64 * 2 ^ t := by
  have : t = 0 ∨ t = 1 ∨ t = 2 := by omega
  rcases this with y | y | y <;> subst y
  all_goals
    unfold tau tauR tauF tauB rr awSet
    simp only [if_pos, if_neg, show ¬ (1 = 0) by omega, show ¬ (2 = 0) by omega, show ¬ (0 = 1) by omega, show ¬ (2 = 1) by omega, show ¬ (0 = 2) by omega, show ¬ (1 = 2) by omega, if_true, if_false]
  · show _ = _ + 64 * 1
    (repeat' split) <;> omega
  · show _ = _ + 64 * 2
    (repeat' split) <;> omega
  · show _ = _ + 64 * 4
    (repeat' split) <;> omega
theorem tau_block {z : Nat → Bool} {s : Nat → Nat} {t : Nat} (ht : t < 3) (h4 : s t % 4 = 0) : tau z (awSet s t (s t + 1)) = tau z s + 64 * (8 * 2 ^ t) := by
  have : t = 0 ∨ t = 1 ∨ t = 2 := by omega
  rcases this with y | y | y <;> subst y
  all_goals
    unfold tau tauR tauF tauB rr awSet
    simp only [if_pos, if_neg, show ¬ (1 = 0) by omega, show ¬ (2 = 0) by omega, show ¬ (0 = 1) by omega, show ¬ (2 = 1) by omega, show ¬ (0 = 2) by omega, show ¬ (1 = 2) by omega, if_true, if_false]
  · show _ = _ + 64 * (8 * 1)
    (repeat' split) <;> omega
  · show _ = _ + 64 * (8 * 2)
    (repeat' split) <;> omega
  · show _ = _ + 64 * (8 * 4)
    (repeat' split) <;> omega
theorem cc_fail {z : Nat → Bool} {a t : Nat} {s : Nat → Nat} (ha : a < 2 ^ 48) (h : ∀ t, t < 3 → s t < 16) (ht : t < 3) (h4 : s t % 4 = 0) : lN (ccode z a s) ||| lN (2 ^ 48 * (64 * 2 ^ t)) = lN (ccode z a (awSet s t (s t + 2))) := by
  obtain ⟨b1, b2, b3, b4⟩ := tau_lt (z := z) h
  have hp : 2 ^ t ≤ 2 ^ 2 := Nat.pow_le_pow_right (by decide) (by omega)
  rw [cc_or ha h (by omega)]
  have x1 : tau z s ||| (2 ^ 6 * (2 ^ t) + 0) = 2 ^ 6 * ((8 * tauB s + tauF s) ||| (2 ^ t)) + (tauR z s ||| 0) := or_split (k := 6) (by omega) (by decide)
  have x2 : (2 ^ 3 * tauB s + tauF s) ||| (2 ^ 3 * 0 + 2 ^ t) = 2 ^ 3 * (tauB s ||| 0) + (tauF s ||| 2 ^ t) := or_split (k := 3) (by omega) (by omega)
  rw [Nat.add_zero, Nat.or_zero] at x1
  rw [Nat.mul_zero, Nat.zero_add, Nat.or_zero, (b8 _ b2 t ht).1 (by rw [tauF_t s t ht]; omega)] at x2
  have x3 : tau z s ||| (64 * 2 ^ t) = tau z s + 64 * 2 ^ t := by
    show tau z s ||| (2 ^ 6 * 2 ^ t) = _
    rw [x1]
    show 2 ^ 6 * ((2 ^ 3 * tauB s + tauF s) ||| (2 ^ t)) + tauR z s = _
    rw [x2]
    unfold tau; omega
  rw [x3, ← tau_fail ht h4]; rfl
theorem cc_block {z : Nat → Bool} {a t : Nat} {s : Nat → Nat} (ha : a < 2 ^ 48) (h : ∀ t, t < 3 → s t < 16) (ht : t < 3) (h4 : s t % 4 = 0) : lN (ccode z a s) ||| lN (2 ^ 48 * (64 * (8 * 2 ^ t))) = lN (ccode z a (awSet s t (s t + 1))) := by
  obtain ⟨b1, b2, b3, b4⟩ := tau_lt (z := z) h
  have hp : 2 ^ t ≤ 2 ^ 2 := Nat.pow_le_pow_right (by decide) (by omega)
  rw [cc_or ha h (by omega)]
  have x1 : tau z s ||| (2 ^ 6 * (8 * 2 ^ t) + 0) = 2 ^ 6 * ((8 * tauB s + tauF s) ||| (8 * 2 ^ t)) + (tauR z s ||| 0) := or_split (k := 6) (by omega) (by decide)
  have x2 : (2 ^ 3 * tauB s + tauF s) ||| (2 ^ 3 * 2 ^ t + 0) = 2 ^ 3 * (tauB s ||| 2 ^ t) + (tauF s ||| 0) := or_split (k := 3) (by omega) (by omega)
  rw [Nat.add_zero, Nat.or_zero] at x1
  rw [Nat.add_zero, Nat.or_zero, (b8 _ b3 t ht).1 (by rw [tauB_t s t ht]; omega)] at x2
  have x3 : tau z s ||| (64 * (8 * 2 ^ t)) = tau z s + 64 * (8 * 2 ^ t) := by
    show tau z s ||| (2 ^ 6 * (8 * 2 ^ t)) = _
    rw [x1]
    show 2 ^ 6 * ((2 ^ 3 * tauB s + tauF s) ||| (2 ^ 3 * 2 ^ t)) + tauR z s = _
    rw [x2]
    unfold tau; omega
  rw [x3, ← tau_block ht h4]; rfl
