/-! the class's number: values, the first point, after a commit, outcomes -/
def pkp (X : Nat → Nat) : Nat → Nat
  | 0 => 0
  | c + 1 => 2 ^ (8 * c) * X c + pkp X c
theorem pkp_lt {X : Nat → Nat} (h : ∀ c, c < 6 → X c ≤ 198) : ∀ c, c ≤ 6 → pkp X c < 2 ^ (8 * c) := by
  intro c
  induction c with
  | zero => intro _; exact (show (0 : Nat) < 2 ^ (8 * 0) by decide)
  | succ c ih =>
    intro hc
    have h1 := ih (by omega)
    have h2 := h c (by omega)
    have h3 : 2 ^ (8 * c) * X c ≤ 2 ^ (8 * c) * 198 := Nat.mul_le_mul_left _ h2
    have h4 : 2 ^ (8 * (c + 1)) = 2 ^ (8 * c) * 256 := by rw [Nat.mul_add, Nat.pow_add]
    show 2 ^ (8 * c) * X c + pkp X c < 2 ^ (8 * (c + 1))
    rw [h4]
    omega
theorem pkp_6 (X : Nat → Nat) : pkp X 6 = pk6 X := by
  simp only [pkp, pk6]; omega
theorem add99 {x : Nat} (h : x ≤ 198) : nI x - (99 : Int32) + 99 = nI x := by
  apply Int32.toInt_inj.mp
  rw [Int32.toInt_add, v99_toInt h, show (99 : Int32).toInt = 99 from rfl, nI_toInt (by omega)]
  rw [Int.bmod_eq_of_le (by omega) (by omega)]
  omega
theorem c_valueBits {A : Nat} {X : Nat → Nat} {Q : Int64 → ct_M → Prop} {m : ct_M} (hA : ct_ln A = 6) (hX : ∀ c, c < 6 → X c ≤ 198) (h1 : ∀ c, c < 6 → m.1 A c = nI (X c) - 99) (h : Q (lN (pk6 X)) m) : wp_X6_valueBits A Q m := by
  have loop : ∀ (n c : Nat), c + n = 6 → wb_X6_valueBits_4 Q (n + 1) A (lN (pkp X c)) (nI c) m := by
    intro n
    induction n with
    | zero =>
      intro c hc
      have : c = 6 := by omega
      subst this
      unfold wb_X6_valueBits_4
      rw [pkp_6]
      exact ⟨fun _ => h, fun z => absurd (by decide) z⟩
    | succ n ih =>
      intro c hc
      have hXc := hX c (by omega)
      have hl := pkp_lt hX c (by omega)
      have hp : 2 ^ (8 * c) ≤ 2 ^ 40 := Nat.pow_le_pow_right (by decide) (by omega)
      unfold wb_X6_valueBits_4
      rw [hA]
      refine ⟨fun z => absurd ((cmp_le (a := 6) (by decide) (by omega)).mp z) (by omega), fun _ => ⟨fun z => absurd ((cmp_le (a := 6) (by decide) (by omega)).mp z) (by omega), fun _ => ⟨(vp_nI (by omega)).mpr (by omega), ?_⟩⟩⟩
      intro x3 e3 x4 e4
      rw [cl (by omega), h1 c (by omega), add99 hXc, nI_64 (by omega), nI_ofNat 8, pk_mul, wb_shl _ (by omega)] at e3
      have hm : X c * 2 ^ (8 * c) ≤ 198 * 2 ^ 40 := Nat.mul_le_mul hXc hp
      rw [wb_or (by omega) (by omega)] at e3
      have eo : pkp X c ||| X c * 2 ^ (8 * c) = pkp X (c + 1) := by
        rw [Nat.or_comm, Nat.mul_comm]
        exact (Nat.two_pow_add_eq_or_of_lt hl (X c)).symm
      rw [eo] at e3
      rw [e3, e4, nI_ofNat 1, nI_add]
      exact ih (c + 1) (by omega)
  unfold wp_X6_valueBits
  exact ⟨7, loop 6 0 rfl⟩
def partS (s : Nat → Nat) (t : Nat) : Nat → Nat := fun u => if u < t then s u else 0
theorem tau_run {z : Nat → Bool} {s : Nat → Nat} {t : Nat} (ht : t < 3) (hz : z t = false) (h4 : s t % 4 = 0) (hs : s t < 16) : tau z (partS s (t + 1)) = tau z (partS s t) + 4 ^ t * (s t / 4) ∧ tauR z (partS s t) < 4 ^ t ∨ ¬ (∀ u, u < 3 → s u < 16) := by
  by_cases hb : ∀ u, u < 3 → s u < 16
  · left
    have b0 := hb 0 (by omega)
    have b1 := hb 1 (by omega)
    have : t = 0 ∨ t = 1 ∨ t = 2 := by omega
    rcases this with y | y | y <;> subst y
    all_goals
      unfold tau tauR tauF tauB rr partS
      simp only [hz, show (0 : Nat) < 0 + 1 by omega, show ¬ (0 : Nat) < 0 by omega, show ¬ (1 : Nat) < 0 by omega, show ¬ (2 : Nat) < 0 by omega, show ¬ (1 : Nat) < 0 + 1 by omega, show ¬ (2 : Nat) < 0 + 1 by omega, show (0 : Nat) < 1 by omega, show ¬ (1 : Nat) < 1 by omega, show ¬ (2 : Nat) < 1 by omega, show (0 : Nat) < 1 + 1 by omega, show (1 : Nat) < 1 + 1 by omega, show ¬ (2 : Nat) < 1 + 1 by omega, show (0 : Nat) < 2 by omega, show (1 : Nat) < 2 by omega, show ¬ (2 : Nat) < 2 by omega, show (0 : Nat) < 2 + 1 by omega, show (1 : Nat) < 2 + 1 by omega, show (2 : Nat) < 2 + 1 by omega, if_true, if_false]
    · refine ⟨?_, ?_⟩
      · show _ = _ + 1 * (s 0 / 4)
        simp only [Bool.false_eq_true, if_false]
        (repeat' split) <;> omega
      · show _ < 1
        (repeat' split) <;> omega
    · refine ⟨?_, ?_⟩
      · show _ = _ + 4 * (s 1 / 4)
        simp only [Bool.false_eq_true, if_false]
        (repeat' split) <;> omega
      · show _ < 4
        (repeat' split) <;> omega
    · refine ⟨?_, ?_⟩
      · show _ = _ + 16 * (s 2 / 4)
        simp only [Bool.false_eq_true, if_false]
        (repeat' split) <;> omega
      · show _ < 16
        (repeat' split) <;> omega
  · exact Or.inr hb
theorem tau_fp {z : Nat → Bool} {s : Nat → Nat} {t : Nat} (ht : t < 3) (hz : z t = true) (h4 : s t % 4 = 2) : tau z (partS s (t + 1)) = tau z (awSet (partS s t) t (partS s t t + 2)) := by
  have : t = 0 ∨ t = 1 ∨ t = 2 := by omega
  rcases this with y | y | y <;> subst y
  all_goals
    unfold tau tauR tauF tauB rr partS awSet
    simp only [hz, show (0 : Nat) < 0 + 1 by omega, show ¬ (0 : Nat) < 0 by omega, show ¬ (1 : Nat) < 0 by omega, show ¬ (2 : Nat) < 0 by omega, show ¬ (1 : Nat) < 0 + 1 by omega, show ¬ (2 : Nat) < 0 + 1 by omega, show (0 : Nat) < 1 by omega, show ¬ (1 : Nat) < 1 by omega, show ¬ (2 : Nat) < 1 by omega, show (0 : Nat) < 1 + 1 by omega, show (1 : Nat) < 1 + 1 by omega, show ¬ (2 : Nat) < 1 + 1 by omega, show (0 : Nat) < 2 by omega, show (1 : Nat) < 2 by omega, show ¬ (2 : Nat) < 2 by omega, show (0 : Nat) < 2 + 1 by omega, show (1 : Nat) < 2 + 1 by omega, show (2 : Nat) < 2 + 1 by omega, show ¬ (1 = 0) by omega, show ¬ (2 = 0) by omega, show ¬ (0 = 1) by omega, show ¬ (2 = 1) by omega, show ¬ (0 = 2) by omega, show ¬ (1 = 2) by omega, if_true, if_false]
    (repeat' split) <;> omega
theorem b16 : ∀ t, t < 3 → ∀ R, R < 4 ^ t → ∀ r, r < 4 → R ||| 4 ^ t * r = R + 4 ^ t * r := by decide +kernel
theorem cc_rb {t r : Nat} (ht : t < 3) (hr : r < 4) : (nI r).toInt64 <<< (((48 : Int32) + ((2 : Int32) * nI t)).toInt64 &&& 63) = lN (2 ^ 48 * (4 ^ t * r)) := (by decide +kernel : ∀ t, t < 3 → ∀ r, r < 4 → (nI r).toInt64 <<< (((48 : Int32) + ((2 : Int32) * nI t)).toInt64 &&& 63) = lN (2 ^ 48 * (4 ^ t * r))) t ht r hr
theorem partS_lt {s : Nat → Nat} {t : Nat} (h : ∀ u, u < 3 → s u < 16) : ∀ u, u < 3 → partS s t u < 16 := fun u hu => by
  have := h u hu
  unfold partS; split <;> omega
theorem c_firstPoint {T : Nat} {X s : Nat → Nat} {z : Nat → Bool} {Q : Int64 → ct_M → Prop} {m : ct_M} (hT : T ≤ 3) (hX : ∀ c, c < 6 → X c ≤ 198) (h1 : ∀ c, c < 6 → m.1 972 c = nI (X c) - 99) (h3 : m.1 971 3 = nI T) (hs : ∀ u, u < 3 → s u < 16) (hs3 : ∀ u, T ≤ u → u < 3 → s u = 0)
    (hw : ∀ t, t < T → (m.1 (978 + 15 * t) 1 = 3 ∧ z t = true ∧ s t % 4 = 2) ∨ (¬ m.1 (978 + 15 * t) 1 = 3 ∧ z t = false ∧ s t % 4 = 0 ∧ m.1 (978 + 15 * t) 2 = nI (s t / 4))) (h : Q (lN (ccode z (pk6 X) s)) m) : wp_X6_firstPoint 964 Q m := by
  have l3 : ct_ln (964 + 7 + 3) = 3 := by decide +kernel
  have ha : pk6 X < 2 ^ 48 := pk6_lt fun c hc => by have := hX c hc; omega
  have loop : ∀ (n t : Nat), t + n = T → wb_X6_firstPoint_13 Q (n + 1) 964 (lN (ccode z (pk6 X) (partS s t))) (nI t) m := by
    intro n
    induction n with
    | zero =>
      intro t ht
      have : t = T := by omega
      subst this
      have e : tau z (partS s t) = tau z s := by
        have x : ∀ u, u < 3 → partS s t u = s u := fun u hu => by
          unfold partS
          split
          · rfl
          · exact (hs3 u (by omega) hu).symm
        unfold tau tauR tauF tauB rr
        rw [x 0 (by omega), x 1 (by omega), x 2 (by omega)]
      have hQ : Q (lN (ccode z (pk6 X) (partS s t))) m := by
        unfold ccode at h ⊢
        rw [e]; exact h
      unfold wb_X6_firstPoint_13
      rw [show 964 + 7 = 971 from rfl, h3]
      exact ⟨fun _ => hQ, fun y => absurd ((cmp_le (by omega) (by omega)).mpr (Nat.le_refl _)) y⟩
    | succ n ih =>
      intro t ht
      have ht3 : t < 3 := by omega
      have nx := ih (t + 1) (by omega)
      have hp := partS_lt (t := t) hs
      have s0 : partS s t t = 0 := if_neg (by omega)
      unfold wb_X6_firstPoint_13
      rw [show 964 + 7 = 971 from rfl, h3]
      refine ⟨fun y => absurd ((cmp_le (by omega) (by omega)).mp y) (by omega), fun _ => ⟨fun y => absurd ((cmp_le (a := 3) (by decide) (by omega)).mp y) (by omega), fun _ => ?_⟩⟩
      rw [show 971 + 3 = 964 + 7 + 3 from rfl, l3, cl (n := t) (by omega), show 964 + 7 + 3 + 4 + 15 * t = 978 + 15 * t by omega]
      refine ⟨(vp_nI (by omega)).mpr ht3, fun y => ?_, fun y => ?_⟩
      · rcases hw t (by omega) with ⟨w1, -⟩ | ⟨w1, w2, w3, w4⟩
        · exact absurd w1 y
        · refine ⟨(vp_nI (by omega)).mpr ht3, ?_⟩
          rw [w4]
          unfold wp_X6_runBits
          have hst := hs t ht3
          rw [cc_rb ht3 (by omega)]
          intro x9 e9
          have hpow : 4 ^ t ≤ 4 ^ 2 := Nat.pow_le_pow_right (by decide) (by omega)
          have hmul : 4 ^ t * (s t / 4) ≤ 16 * 3 := Nat.mul_le_mul hpow (by omega)
          rw [cc_or ha hp (by omega)] at e9
          have et : tau z (partS s t) ||| 4 ^ t * (s t / 4) = tau z (partS s (t + 1)) := by
            obtain ⟨r1, r2⟩ := (tau_run ht3 w2 w3 hst).resolve_right fun y => y hs
            obtain ⟨b1, b2, b3, b4⟩ := tau_lt (z := z) hp
            have x1 : tau z (partS s t) ||| (2 ^ 6 * 0 + 4 ^ t * (s t / 4)) = 2 ^ 6 * ((8 * tauB (partS s t) + tauF (partS s t)) ||| 0) + (tauR z (partS s t) ||| 4 ^ t * (s t / 4)) := or_split (k := 6) (by omega) (by omega)
            rw [Nat.mul_zero, Nat.zero_add, Nat.or_zero, b16 t ht3 _ r2 _ (by omega)] at x1
            rw [x1, r1]
            unfold tau; omega
          rw [et] at e9
          unfold wb_X6_firstPoint_74
          intro x1 e1
          rw [e1, e9, nI_ofNat 1, nI_add]
          exact nx
      · rcases hw t (by omega) with ⟨w1, w2, w3⟩ | ⟨w1, -⟩
        · unfold wp_X6_failedBit
          rw [cc_fb ht3]
          intro x12 e12
          rw [cc_fail ha hp ht3 (by rw [s0])] at e12
          have et : ccode z (pk6 X) (awSet (partS s t) t (partS s t t + 2)) = ccode z (pk6 X) (partS s (t + 1)) := by
            unfold ccode
            rw [tau_fp ht3 w2 w3]
          rw [et] at e12
          unfold wb_X6_firstPoint_74
          intro x1 e1
          rw [e1, e12, nI_ofNat 1, nI_add]
          exact nx
        · exact absurd y w1
  unfold wp_X6_firstPoint
  refine c_valueBits (X := X) (by decide +kernel) hX h1 ⟨T + 1, ?_⟩
  have := loop T 0 (by omega)
  have e0 : ccode z (pk6 X) (partS s 0) = pk6 X := by
    have x : ∀ u, partS s 0 u = 0 := fun u => if_neg (by omega)
    unfold ccode tau tauR tauF tauB rr
    simp only [x]
    simp
  rw [e0] at this
  exact this
/-- what the threads are at behind a commit of t that wrote x -/
def nxC (s : Nat → Nat) (t x : Nat) : Nat → Nat := if x = 0 then awSet s t (s t - 4) else fun u => awSet s t (s t - 4) u - awSet s t (s t - 4) u % 2
theorem tau_commit {z : Nat → Bool} {s : Nat → Nat} {t : Nat} (ht : t < 3) (hz : z t = false) (h4 : 4 ≤ s t) : tau z s = tau z (awSet s t (s t - 4)) + 4 ^ t := by
  have : t = 0 ∨ t = 1 ∨ t = 2 := by omega
  rcases this with y | y | y <;> subst y
  all_goals
    unfold tau tauR tauF tauB rr awSet
    simp only [hz, if_pos, if_neg, show ¬ (1 = 0) by omega, show ¬ (2 = 0) by omega, show ¬ (0 = 1) by omega, show ¬ (2 = 1) by omega, show ¬ (0 = 2) by omega, show ¬ (1 = 2) by omega, if_true, if_false, Bool.false_eq_true]
  · show _ = _ + 1
    (repeat' split) <;> omega
  · show _ = _ + 4
    (repeat' split) <;> omega
  · show _ = _ + 16
    (repeat' split) <;> omega
theorem tau_clear {z : Nat → Bool} {s : Nat → Nat} (h : ∀ t, t < 3 → s t < 16) : tau z s &&& 61951 = tau z (fun u => s u - s u % 2) := by
  obtain ⟨b1, b2, b3, b4⟩ := tau_lt (z := z) h
  have e1 : tau z s = 2 ^ 9 * tauB s + (64 * tauF s + tauR z s) := by unfold tau; omega
  have x : (2 ^ 9 * tauB s + (64 * tauF s + tauR z s)) &&& (2 ^ 9 * 120 + (2 ^ 9 - 1)) = 2 ^ 9 * (tauB s &&& 120) + ((64 * tauF s + tauR z s) &&& (2 ^ 9 - 1)) := and_split (k := 9) (by omega) (by decide)
  have y : tauB s &&& 120 = 0 := (by decide : ∀ B, B < 8 → B &&& 120 = 0) _ b3
  rw [e1]
  show (2 ^ 9 * tauB s + (64 * tauF s + tauR z s)) &&& (2 ^ 9 * 120 + (2 ^ 9 - 1)) = _
  rw [x, y, Nat.and_two_pow_sub_one_eq_mod, Nat.mod_eq_of_lt (by omega)]
  have h0 := h 0 (by omega)
  have h1 := h 1 (by omega)
  have h2 := h 2 (by omega)
  unfold tau tauR tauF tauB rr
  have d : ∀ k : Nat, (k - k % 2) / 4 = k / 4 ∧ (k - k % 2) / 2 % 2 = k / 2 % 2 ∧ (k - k % 2) % 2 = 0 := fun k => by omega
  rw [(d (s 0)).1, (d (s 1)).1, (d (s 2)).1, (d (s 0)).2.1, (d (s 1)).2.1, (d (s 2)).2.1, (d (s 0)).2.2, (d (s 1)).2.2, (d (s 2)).2.2]
  omega
theorem awS_lt {s : Nat → Nat} {t x : Nat} (h : ∀ u, u < 3 → s u < 16) (hx : x < 16) : ∀ u, u < 3 → awSet s t x u < 16 := fun u hu => by
  unfold awSet; split
  · exact hx
  · exact h u hu
theorem nxC_lt {s : Nat → Nat} {t x : Nat} (h : ∀ u, u < 3 → s u < 16) (ht : t < 3) : ∀ u, u < 3 → nxC s t x u < 16 := fun u hu => by
  have h1 := h t ht
  have h2 := awS_lt (t := t) (x := s t - 4) h (by omega) u hu
  unfold nxC
  split
  · exact h2
  · show awSet s t (s t - 4) u - _ < 16
    omega
theorem c_afterCommit {z : Nat → Bool} {a t x : Nat} {s Y : Nat → Nat} {Q : Int64 → ct_M → Prop} {m : ct_M} (ha : a < 2 ^ 48) (h : ∀ t, t < 3 → s t < 16) (ht : t < 3) (hz : z t = false) (h4 : 4 ≤ s t) (hY : ∀ c, c < 6 → Y c ≤ 198) (h1 : ∀ c, c < 6 → m.1 972 c = nI (Y c) - 99) (hx : x < 64) (h2 : ∀ c, c < 6 → m.1 973 c = rBit (nI x) c) (hq : Q (lN (ccode z (pk6 Y) (nxC s t x))) m) : wp_X6_afterCommit 964 (lN (ccode z a s)) (nI t) Q m := by
  have l2 : ct_ln (964 + 7 + 2) = 6 := by decide +kernel
  have hpk : pk6 Y < 2 ^ 48 := pk6_lt fun c hc => by have := hY c hc; omega
  have hst := h t ht
  obtain ⟨b1, b2, b3, b4⟩ := tau_lt (z := z) h
  have hs1 := awS_lt (t := t) (x := s t - 4) h (by omega)
  have et := tau_commit (z := z) ht hz h4
  have q4 := (tau_lt (z := z) hs1).2.2.2
  have hpow : 4 ^ t ≤ 4 ^ 2 := Nat.pow_le_pow_right (by decide) (by omega)
  -- whether some bit below c is set
  have loop : ∀ (n c : Nat) (τ : Nat), c + n = 6 → ((τ = tau z (awSet s t (s t - 4)) ∧ ∀ d, d < c → ¬ bitSet (nI x) d) ∨ (τ = tau z (awSet s t (s t - 4)) &&& 61951 ∧ ∃ d, d < c ∧ bitSet (nI x) d)) → wb_X6_afterCommit_16 Q (n + 1) 964 (lN (2 ^ 48 * τ)) (nI c) m := by
    intro n
    induction n with
    | zero =>
      intro c τ hc hτ
      have : c = 6 := by omega
      subst this
      have eτ : τ = tau z (nxC s t x) ∧ τ < 4096 := by
        rcases hτ with ⟨r1, r2⟩ | ⟨r1, d, r2, r3⟩
        · have x0 : x = 0 := by
            have hall : ∀ x, x < 64 → (∀ d, d < 6 → ¬ ((nI x >>> (nI d &&& 31)) &&& 1 = 1)) → x = 0 := by decide +kernel
            exact hall x hx r2
          unfold nxC
          rw [if_pos x0]
          exact ⟨r1, by omega⟩
        · have x0 : ¬ x = 0 := by
            intro y
            subst y
            exact bit0 d (by omega) r3
          unfold nxC
          rw [if_neg x0, ← tau_clear hs1]
          have : tau z (awSet s t (s t - 4)) &&& 61951 ≤ tau z (awSet s t (s t - 4)) := Nat.and_le_left
          exact ⟨r1, by omega⟩
      unfold wb_X6_afterCommit_16
      refine ⟨fun _ => ?_, fun y => absurd (by decide) y⟩
      refine c_valueBits (X := Y) (by decide +kernel) hY h1 ?_
      have e1 : (2 ^ 48 * τ + 0) ||| (2 ^ 48 * 0 + pk6 Y) = 2 ^ 48 * (τ ||| 0) + (0 ||| pk6 Y) := or_split (k := 48) (by decide) hpk
      rw [Nat.add_zero, Nat.mul_zero, Nat.zero_add, Nat.or_zero, Nat.zero_or] at e1
      rw [wb_or (by omega) (by omega), e1, eτ.1]
      exact hq
    | succ n ih =>
      intro c τ hc hτ
      have hlt : τ < 4096 := by
        rcases hτ with ⟨r1, -⟩ | ⟨r1, -⟩
        · omega
        · have : tau z (awSet s t (s t - 4)) &&& 61951 ≤ tau z (awSet s t (s t - 4)) := Nat.and_le_left
          omega
      unfold wb_X6_afterCommit_16
      refine ⟨fun y => absurd ((cmp_le (a := 6) (by decide) (by omega)).mp y) (by omega), fun _ => ?_⟩
      rw [l2, show 964 + 7 + 2 = 973 from rfl, cl (by omega), h2 c (by omega)]
      refine ⟨(vp_nI (by omega)).mpr (by omega), fun y => ?_, fun y => ?_⟩
      · have nb : ¬ bitSet (nI x) c := by
          intro hb
          unfold rBit at y
          rw [cif_t hb] at y
          exact absurd y (by decide)
        unfold wb_X6_afterCommit_44
        intro x1 e1
        rw [e1, nI_ofNat 1, nI_add]
        refine ih (c + 1) τ (by omega) ?_
        rcases hτ with ⟨r1, r2⟩ | ⟨r1, d, r2, r3⟩
        · refine Or.inl ⟨r1, fun d hd => ?_⟩
          by_cases e : d = c
          · subst e; exact nb
          · exact r2 d (by omega)
        · exact Or.inr ⟨r1, d, by omega, r3⟩
      · have nb : bitSet (nI x) c := by
          refine Classical.byContradiction fun hb => y ?_
          unfold rBit
          rw [cif_f hb]; decide
        intro x9 e9
        have em : (-1008806316530991105 : Int64) = lN (2 ^ 48 * 61951 + (2 ^ 48 - 1)) := by decide +kernel
        have e2 : (2 ^ 48 * τ + 0) &&& (2 ^ 48 * 61951 + (2 ^ 48 - 1)) = 2 ^ 48 * (τ &&& 61951) + (0 &&& (2 ^ 48 - 1)) := and_split (k := 48) (by decide) (by decide)
        rw [Nat.add_zero, Nat.zero_and, Nat.add_zero] at e2
        rw [em, wb_and (by omega) (by decide), e2] at e9
        unfold wb_X6_afterCommit_44
        intro x1 e1
        rw [e1, e9, nI_ofNat 1, nI_add]
        refine ih (c + 1) (τ &&& 61951) (by omega) (Or.inr ⟨?_, c, by omega, nb⟩)
        rcases hτ with ⟨r1, -⟩ | ⟨r1, -⟩
        · rw [r1]
        · rw [r1, Nat.and_assoc, Nat.and_self]
  unfold wp_X6_afterCommit wp_X6_runBits
  rw [show (1 : Int32) = nI 1 from rfl, cc_rb ht (by omega)]
  intro x3 e3
  have em : (-281474976710656 : Int64) = lN (2 ^ 48 * 65535 + 0) := by decide +kernel
  rw [em, cc_and ha h (by decide) (by decide), Nat.and_zero, Nat.add_zero] at e3
  have e4 : tau z s &&& 65535 = tau z s := by
    show tau z s &&& (2 ^ 16 - 1) = _
    rw [Nat.and_two_pow_sub_one_eq_mod, Nat.mod_eq_of_lt (by omega)]
  rw [e4, Nat.mul_one, lN_mi (by omega), ← Nat.mul_sub, et, Nat.add_sub_cancel] at e3
  rw [e3]
  exact ⟨7, loop 6 0 _ rfl (Or.inl ⟨rfl, fun d hd => absurd hd (Nat.not_lt_zero d)⟩)⟩
/-- an outcome -/
theorem cc_mask {z : Nat → Bool} {a : Nat} {s : Nat → Nat} (ha : a < 2 ^ 48) (h : ∀ t, t < 3 → s t < 16) : lN (ccode z a s) &&& (-17732923532771329 : Int64) = lN (ccode z a (fun u => s u % 4)) := by
  obtain ⟨b1, b2, b3, b4⟩ := tau_lt (z := z) h
  have em : (-17732923532771329 : Int64) = lN (2 ^ 48 * 65472 + (2 ^ 48 - 1)) := by decide +kernel
  rw [em, cc_and ha h (by decide) (by decide), Nat.and_two_pow_sub_one_eq_mod, Nat.mod_eq_of_lt ha]
  have x1 : tau z s &&& (2 ^ 6 * (2 ^ 10 - 1) + 0) = 2 ^ 6 * ((8 * tauB s + tauF s) &&& (2 ^ 10 - 1)) + (tauR z s &&& 0) := and_split (k := 6) (by omega) (by decide)
  rw [Nat.and_zero, Nat.add_zero, Nat.and_two_pow_sub_one_eq_mod, Nat.mod_eq_of_lt (by omega)] at x1
  have x2 : tau z s &&& 65472 = tau z (fun u => s u % 4) := by
    show tau z s &&& (2 ^ 6 * (2 ^ 10 - 1) + 0) = _
    rw [x1]
    unfold tau tauR tauF tauB rr
    have d : ∀ k : Nat, k % 4 / 4 = 0 ∧ k % 4 / 2 % 2 = k / 2 % 2 ∧ k % 4 % 2 = k % 2 := fun k => by omega
    rw [(d (s 0)).1, (d (s 1)).1, (d (s 2)).1, (d (s 0)).2.1, (d (s 1)).2.1, (d (s 2)).2.1, (d (s 0)).2.2, (d (s 1)).2.2, (d (s 2)).2.2]
    simp
  rw [x2]; rfl
theorem cc_blk {z : Nat → Bool} {a : Nat} {s : Nat → Nat} (ha : a < 2 ^ 48) (h : ∀ t, t < 3 → s t < 16) : lN (ccode z a s) &&& (1008806316530991104 : Int64) = 0 ↔ ∀ t, t < 3 → s t % 2 = 0 := by
  obtain ⟨b1, b2, b3, b4⟩ := tau_lt (z := z) h
  have em : (1008806316530991104 : Int64) = lN (2 ^ 48 * 3584 + 0) := by decide +kernel
  rw [em, cc_and ha h (by decide) (by decide), Nat.and_zero, Nat.add_zero]
  have e1 : tau z s = 2 ^ 9 * tauB s + (64 * tauF s + tauR z s) := by unfold tau; omega
  have x : (2 ^ 9 * tauB s + (64 * tauF s + tauR z s)) &&& (2 ^ 9 * (2 ^ 3 - 1) + 0) = 2 ^ 9 * (tauB s &&& (2 ^ 3 - 1)) + ((64 * tauF s + tauR z s) &&& 0) := and_split (k := 9) (by omega) (by decide)
  rw [Nat.and_zero, Nat.add_zero, Nat.and_two_pow_sub_one_eq_mod, Nat.mod_eq_of_lt (by omega)] at x
  have e2 : tau z s &&& 3584 = 2 ^ 9 * tauB s := by
    rw [e1]; exact x
  rw [e2]
  have z0 : lN (2 ^ 48 * (2 ^ 9 * tauB s)) = 0 ↔ 2 ^ 48 * (2 ^ 9 * tauB s) = 0 := lN_inj (b := 0) (by omega) (by decide)
  rw [z0]
  unfold tauB
  constructor
  · intro y t ht
    have : t = 0 ∨ t = 1 ∨ t = 2 := by omega
    rcases this with w | w | w <;> subst w <;> omega
  · intro y
    have y0 := y 0 (by omega)
    have y1 := y 1 (by omega)
    have y2 := y 2 (by omega)
    omega
theorem cc_inj {z : Nat → Bool} {a a' : Nat} {s s' : Nat → Nat} (ha : a < 2 ^ 48) (ha' : a' < 2 ^ 48) (h : ∀ t, t < 3 → s t < 16) (h' : ∀ t, t < 3 → s' t < 16) (hz : ∀ t, t < 3 → z t = true → s t / 4 = s' t / 4) (e : ccode z a s = ccode z a' s') : a = a' ∧ ∀ t, t < 3 → s t = s' t := by
  obtain ⟨b1, b2, b3, b4⟩ := tau_lt (z := z) h
  obtain ⟨c1, c2, c3, c4⟩ := tau_lt (z := z) h'
  unfold ccode at e
  refine ⟨by omega, ?_⟩
  have et : tau z s = tau z s' := by omega
  unfold tau at et
  have eR : tauR z s = tauR z s' := by omega
  have eF : tauF s = tauF s' := by omega
  have eB : tauB s = tauB s' := by omega
  have r0 := rr_lt (z := z) (h 0 (by omega))
  have r1 := rr_lt (z := z) (h 1 (by omega))
  have r2 := rr_lt (z := z) (h 2 (by omega))
  have r0' := rr_lt (z := z) (h' 0 (by omega))
  have r1' := rr_lt (z := z) (h' 1 (by omega))
  have r2' := rr_lt (z := z) (h' 2 (by omega))
  unfold tauR at eR
  unfold tauF at eF
  unfold tauB at eB
  have one : ∀ t, t < 3 → rr z s t = rr z s' t → s t / 2 % 2 = s' t / 2 % 2 → s t % 2 = s' t % 2 → s t = s' t := by
    intro t ht e1 e2 e3
    have : s t / 4 = s' t / 4 := by
      cases ez : z t with
      | true => exact hz t ht ez
      | false =>
        unfold rr at e1
        rw [ez] at e1
        exact e1
    omega
  intro t ht
  have : t = 0 ∨ t = 1 ∨ t = 2 := by omega
  rcases this with w | w | w <;> subst w <;> exact one _ (by omega) (by omega) (by omega) (by omega)
