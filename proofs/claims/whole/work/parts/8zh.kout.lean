/-! the four calls over the serial schedules -/
/-- what both sides know of the outcomes -/
def OutOK (O : EX) : Prop := (∀ i, i < O.2 → GOt (O.1 i)) ∧ O.2 ≤ 1359 ∧ 0 < O.2
theorem sch_out {G : Prg} {T B : Nat} {N : Nat → Nat} {D : Nat → Nat → Nat} {v0 : Row} (hT : T ≤ 3) (hps : PSs G T N D) (hf : RWf G T N D B v0) : OutOK (EO G T v0).2 := by
  have hS := Sch_of hT hps hf
  have h := exO_end hS 1360 0 (E0 T v0) O0 (by omega) (XI_start hS hf)
  have few := XI_few hS h.1 h.2.1
  exact ⟨h.2.2.1, Nat.le_trans h.2.2.2.2.1 few, some_end hS h⟩
theorem sch_inv {G : Prg} {T B : Nat} {N : Nat → Nat} {D : Nat → Nat → Nat} {v0 : Row} {z : Nat → Bool} {m m1 m3 : ct_M} {E O E' O' : EX} (h : INV B m) (hc : CXS G T N D v0 z m m1 E O) (hr : RXS (ct_st m1 1023 0 0) m3 E' O') : INV B m3 := by
  obtain ⟨⟨-, ok1, fr1, fr2⟩, -, -⟩ := hc
  obtain ⟨⟨rc1, rc2, rc3⟩, -, -⟩ := hr
  have low : ∀ q, q < 1023 → m3.1 q = m1.1 q := fun q hq => by rw [rc1 q (by omega) (by omega), ct_st_ne (by omega)]
  refine INV_idle h ⟨fun q q1 _ _ => by rw [low q (by omega)]; exact fr1 q (by omega), fun j hj => ?_, fun q q1 q2 q3 => ?_⟩ (ok1.near fun q _ q2 => low q q2)
  · rw [rc2 j (by omega) (by omega) (by omega), ct_st_eq, upd_ne _ _ (by omega), fr1 _ (by omega)]
  · rw [rc1 q (by omega) q3, ct_st_ne (by omega)]; exact fr1 q (by omega)
/-- the two explorations, one behind the other -/
theorem sch_both {B : Nat} {m : ct_M} (h : INV B m) (hB : B < 2 ^ 28) : ∃ (O : EX) (z : Nat → Bool), OutOK O ∧ ∀ Q : ct_M → Prop, (∀ m1, KSet m1 968 O.2 (fun i => kC z (O.1 i)) → (∀ q, (q < 965 ∨ 1023 ≤ q) → m1.1 q = m.1 q) → (∀ Q' : ct_M → Prop, (∀ m3, RKey m3 33 1046 O.2 (fun i => kR (O.1 i)) → INV B m3 → (∀ q, (q = 1035 ∨ q = 1036) → m3.1 q = m.1 q) → m3.1 1023 16 = m.1 1023 16 → Q' m3) → wp_X12_explore 1023 Q' (ct_st m1 1023 0 0)) → Q m1) → wp_X6_explore (0 + 964) (0 + 26) Q m := by
  obtain ⟨hok, -, -, G, T, N, D, ⟨c1, c2, c3, c4, c5, c6, c7, c8⟩, -⟩ := id h
  refine ⟨(EO G T (m.1 1030)).2, zOf T (m.1 1030), sch_out c2 c5 c8, fun Q hQ => ?_⟩
  refine c_explore c2 c5 c6 hok c7 c8 (fun m1 hX => hQ m1 hX.2.2 hX.1.2.2.1 (fun Q' hQ' => ?_))
  have fr1 := hX.1.2.2.1
  refine r_explore (G := G) (T := T) (B := B) (N := N) (D := D) (v0 := m.1 1030) c2 c5 c8 (by omega) (fun k k1 k2 => by rw [ct_st_ne (by omega), fr1 k (by omega)]; exact c3 k k1 k2) (by rw [ct_st_eq, upd_ne _ _ (by decide), fr1 _ (by omega)]; exact c4) (by rw [ct_st_ne (by decide), fr1 _ (by omega)]) (fun m3 hR => ?_)
  refine hQ' m3 hR.2.2 (sch_inv h hX hR) (fun q hq => by rw [hR.1.1 q (by omega) (by omega), ct_st_ne (by omega)]; exact fr1 q (by omega)) ?_
  rw [hR.1.2.1 16 (by decide) (by decide) (by decide), ct_st_eq, upd_ne _ _ (by decide), fr1 _ (by omega)]
theorem k_outcomeCount {B : Nat} {K : ct_M → Prop} {m : ct_M} (h : INV B m) (hB : B < 2 ^ 28) (hK : ∀ m', INV (B + 400) m' → K m') : wp_X11_outcomeCount 0 (fun r m1 => wp_X12_outcomeCount 1023 (Same K r) m1) m := by
  obtain ⟨O, z, oo, both⟩ := sch_both h hB
  unfold wp_X11_outcomeCount
  refine both _ (fun m1 ks fr ref => ?_)
  unfold wp_X12_outcomeCount
  intro m2 e2
  subst e2
  refine ref _ (fun m3 rk iv _ _ => ?_)
  rw [show m1.1 (0 + 964 + 4) 1 = nI O.2 from ks.2.1, rk.1]
  exact Same.mk (hK m3 (iv.mono (by omega)))
/-! canDeadlock -/
def blkd (p : Pnt) : Prop := ¬ ∀ t, t < 3 → sT p.2 t % 2 = 0
theorem c_dead {z : Nat → Bool} {O : EX} {Q : Int32 → ct_M → Prop} {m : ct_M} (oo : OutOK O) (ks : KSet m 968 O.2 (fun i => kC z (O.1 i))) (h1 : (∃ i, i < O.2 ∧ blkd (O.1 i)) → Q 1 m) (h0 : (¬ ∃ i, i < O.2 ∧ blkd (O.1 i)) → Q 0 m) : ∃ n, wb_X11_canDeadlock_13 Q n 0 (0 : Int32) m := by
  have l9 : ct_ln (0 + 964 + 4 + 1) = 1359 := by decide +kernel
  have loop : ∀ (n j : Nat), j + n = O.2 → (∀ i, i < j → ¬ blkd (O.1 i)) → wb_X11_canDeadlock_13 Q (n + 1) 0 (nI j) m := by
    intro n
    have o2 := oo.2.1
    induction n with
    | zero =>
      intro j hj hp
      have : j = O.2 := by omega
      subst this
      unfold wb_X11_canDeadlock_13
      rw [show m.1 (0 + 964 + 4) 1 = nI O.2 from ks.2.1]
      exact ⟨fun _ => h0 fun ⟨i, hi, hb⟩ => hp i hi hb, fun y => absurd ((cmp_le (by omega) (by omega)).mpr (Nat.le_refl _)) y⟩
    | succ n ih =>
      intro j hj hp
      have g := oo.1 j (by omega)
      unfold wb_X11_canDeadlock_13
      rw [show m.1 (0 + 964 + 4) 1 = nI O.2 from ks.2.1, l9, cl (n := j) (by omega), show m.2 (0 + 964 + 4 + 1) j = kC z (O.1 j) from ks.2.2.1 j (by omega)]
      have eb := cc_blk (z := z) g.1.1 (fun u (_ : u < 3) => sT_lt (O.1 j).2 u)
      refine ⟨fun y => absurd ((cmp_le (by omega) (by omega)).mp y) (by omega), fun _ => ⟨fun y => absurd ((cmp_le (a := 1359) (by decide) (by omega)).mp y) (by omega), fun _ => ⟨(vp_nI (by omega)).mpr (by omega), fun y => ?_, fun y => h1 ⟨j, by omega, fun w => y (lg_eq.mpr (eb.mpr w))⟩⟩⟩⟩
      intro x6 e6
      rw [e6, nI_ofNat 1, nI_add]
      refine ih (j + 1) (by omega) (fun i hi => ?_)
      by_cases e : i = j
      · subst e; exact fun w => w (eb.mp (lg_eq.mp y))
      · exact hp i (by omega)
  exact ⟨O.2 + 1, loop O.2 0 (by omega) (fun i hi => absurd hi (Nat.not_lt_zero i))⟩
theorem r_dead {O : EX} {Q : Int32 → ct_M → Prop} {m : ct_M} (oo : OutOK O) (ks : RKey m 33 1046 O.2 (fun i => kR (O.1 i))) (h1 : (∃ i, i < O.2 ∧ blkd (O.1 i)) → Q 1 m) (h0 : (¬ ∃ i, i < O.2 ∧ blkd (O.1 i)) → Q 0 m) : ∃ n, wb_X12_canDeadlock_11 Q n 1023 (0 : Int32) m := by
  have l46 : ct_ln (1023 + 23) = 4096 := by decide
  have loop : ∀ (n j : Nat), j + n = O.2 → (∀ i, i < j → ¬ blkd (O.1 i)) → wb_X12_canDeadlock_11 Q (n + 1) 1023 (nI j) m := by
    intro n
    have o2 := oo.2.1
    induction n with
    | zero =>
      intro j hj hp
      have : j = O.2 := by omega
      subst this
      unfold wb_X12_canDeadlock_11
      rw [ks.1]
      exact ⟨fun _ => h0 fun ⟨i, hi, hb⟩ => hp i hi hb, fun y => absurd ((cmp_le (by omega) (by omega)).mpr (Nat.le_refl _)) y⟩
    | succ n ih =>
      intro j hj hp
      have g := oo.1 j (by omega)
      unfold wb_X12_canDeadlock_11
      rw [ks.1, l46, cl (n := j) (by omega), show m.2 (1023 + 23) j = kR (O.1 j) from ks.2 j (by omega)]
      have eb := rc_blocked g.1.2 g.2.1
      refine ⟨fun y => absurd ((cmp_le (by omega) (by omega)).mp y) (by omega), fun _ => ⟨(vp_nI (by omega)).mpr (by omega), fun y => ?_, fun y => h1 ⟨j, by omega, fun w => y (lg_eq.mpr (eb.mpr w))⟩⟩⟩
      intro x4 e4
      rw [e4, nI_ofNat 1, nI_add]
      refine ih (j + 1) (by omega) (fun i hi => ?_)
      by_cases e : i = j
      · subst e; exact fun w => w (eb.mp (lg_eq.mp y))
      · exact hp i (by omega)
  exact ⟨O.2 + 1, loop O.2 0 (by omega) (fun i hi => absurd hi (Nat.not_lt_zero i))⟩
theorem k_canDeadlock {B : Nat} {K : ct_M → Prop} {m : ct_M} (h : INV B m) (hB : B < 2 ^ 28) (hK : ∀ m', INV (B + 400) m' → K m') : wp_X11_canDeadlock 0 (fun r m1 => wp_X12_canDeadlock 1023 (Same K r) m1) m := by
  obtain ⟨O, z, oo, both⟩ := sch_both h hB
  unfold wp_X11_canDeadlock
  refine both _ (fun m1 ks fr ref => ?_)
  refine c_dead oo ks (fun y => ?_) (fun y => ?_)
  · unfold wp_X12_canDeadlock
    intro m2 e2
    subst e2
    exact ref _ (fun m3 rk iv _ _ => r_dead oo rk (fun _ => Same.mk (hK m3 (iv.mono (by omega)))) (fun w => absurd y w))
  · unfold wp_X12_canDeadlock
    intro m2 e2
    subst e2
    exact ref _ (fun m3 rk iv _ _ => r_dead oo rk (fun w => absurd w y) (fun _ => Same.mk (hK m3 (iv.mono (by omega)))))
/-! greatestOutcome -/
def mxO (O : EX) (c : Nat) : Nat → Nat
  | 0 => 0
  | j + 1 => if mxO O c j < dg (O.1 j).1 c then dg (O.1 j).1 c else mxO O c j
theorem mxO_le {O : EX} {c : Nat} (oo : OutOK O) (hc : c < 6) : ∀ j, j ≤ O.2 → mxO O c j ≤ 198 := by
  intro j
  induction j with
  | zero => intro _; exact Nat.zero_le _
  | succ j ih =>
    intro hj
    have := ih (by omega)
    have := (oo.1 j (by omega)).1.2 c hc
    show (if _ then _ else _) ≤ 198
    split <;> omega
theorem v99_lt {a b : Nat} (ha : a ≤ 198) (hb : b ≤ 198) : nI a - (99 : Int32) < nI b - 99 ↔ a < b := by
  rw [Int32.lt_iff_toInt_lt, v99_toInt ha, v99_toInt hb]; omega
theorem v99_le {a b : Nat} (ha : a ≤ 198) (hb : b ≤ 198) : nI a - (99 : Int32) ≤ nI b - 99 ↔ a ≤ b := by
  rw [Int32.le_iff_toInt_le, v99_toInt ha, v99_toInt hb]; omega
theorem c_great {z : Nat → Bool} {O : EX} {c : Nat} {Q : Int32 → ct_M → Prop} {m : ct_M} (hc : c < 6) (oo : OutOK O) (ks : KSet m 968 O.2 (fun i => kC z (O.1 i))) (h : Q (nI (mxO O c O.2) - 99 + 100) m) : ∃ n, wb_X11_greatestOutcome_25 Q n 0 (nI c) (-99 : Int32) (0 : Int32) m := by
  have l9 : ct_ln (0 + 964 + 4 + 1) = 1359 := by decide +kernel
  have loop : ∀ (n j : Nat), j + n = O.2 → wb_X11_greatestOutcome_25 Q (n + 1) 0 (nI c) (nI (mxO O c j) - 99) (nI j) m := by
    intro n
    have o2 := oo.2.1
    induction n with
    | zero =>
      intro j hj
      have : j = O.2 := by omega
      subst this
      unfold wb_X11_greatestOutcome_25
      rw [show m.1 (0 + 964 + 4) 1 = nI O.2 from ks.2.1]
      exact ⟨fun _ => h, fun y => absurd ((cmp_le (by omega) (by omega)).mpr (Nat.le_refl _)) y⟩
    | succ n ih =>
      intro j hj
      have g := oo.1 j (by omega)
      unfold wb_X11_greatestOutcome_25
      rw [show m.1 (0 + 964 + 4) 1 = nI O.2 from ks.2.1, l9, cl (n := j) (by omega), show m.2 (0 + 964 + 4 + 1) j = kC z (O.1 j) from ks.2.2.1 j (by omega)]
      refine ⟨fun y => absurd ((cmp_le (by omega) (by omega)).mp y) (by omega), fun _ => ⟨fun y => absurd ((cmp_le (a := 1359) (by decide) (by omega)).mp y) (by omega), fun _ => ⟨(vp_nI (by omega)).mpr (by omega), ?_⟩⟩⟩
      unfold kC
      refine cc_cell g.1.1 (fun u _ => sT_lt _ u) hc ?_
      intro x7 e7 x8 e8
      have em : x7 = nI (mxO O c (j + 1)) - 99 := by
        rw [e7]
        have b1 := mxO_le oo hc j (by omega)
        have b2 := g.1.2 c hc
        show _ = nI (if mxO O c j < dg (O.1 j).1 c then dg (O.1 j).1 c else mxO O c j) - 99
        by_cases y : mxO O c j < dg (O.1 j).1 c
        · rw [if_pos y, if_pos ((v99_lt b1 b2).mpr y)]
        · rw [if_neg y, if_neg fun w => y ((v99_lt b1 b2).mp w)]
      rw [em, e8, nI_ofNat 1, nI_add]
      exact ih (j + 1) (by omega)
  exact ⟨O.2 + 1, loop O.2 0 (by omega)⟩
theorem r_great {O : EX} {c : Nat} {Q : Int32 → ct_M → Prop} {m : ct_M} (hc : c < 6) (oo : OutOK O) (ks : RKey m 33 1046 O.2 (fun i => kR (O.1 i))) (h : Q (nI (mxO O c O.2) - 99 + 100) m) : ∃ n, wb_X12_greatestOutcome_23 Q n 1023 (nI c) (-100 : Int32) (0 : Int32) m := by
  have l46 : ct_ln (1023 + 23) = 4096 := by decide
  have loop : ∀ (n j : Nat) (v2 : Int32), j + n = O.2 → ((j = 0 ∧ v2 = -100) ∨ (0 < j ∧ v2 = nI (mxO O c j) - 99)) → wb_X12_greatestOutcome_23 Q (n + 1) 1023 (nI c) v2 (nI j) m := by
    intro n
    have o2 := oo.2.1
    have o3 := oo.2.2
    induction n with
    | zero =>
      intro j v2 hj hv
      have : j = O.2 := by omega
      subst this
      unfold wb_X12_greatestOutcome_23
      rw [ks.1]
      rcases hv with ⟨y, -⟩ | ⟨-, y⟩
      · omega
      · rw [y]
        exact ⟨fun _ => h, fun y => absurd ((cmp_le (by omega) (by omega)).mpr (Nat.le_refl _)) y⟩
    | succ n ih =>
      intro j v2 hj hv
      have g := oo.1 j (by omega)
      have b2 := g.1.2 c hc
      unfold wb_X12_greatestOutcome_23
      rw [ks.1, l46, cl (n := j) (by omega), show m.2 (1023 + 23) j = kR (O.1 j) from ks.2 j (by omega)]
      refine ⟨fun y => absurd ((cmp_le (by omega) (by omega)).mp y) (by omega), fun _ => ⟨(vp_nI (by omega)).mpr (by omega), ?_⟩⟩
      unfold kR
      refine rc_value g.1.2 g.2.1 hc ?_
      have nx : ∀ w : Int32, w = nI (mxO O c (j + 1)) - 99 → wb_X12_greatestOutcome_55 (wb_X12_greatestOutcome_23 Q (n + 1)) Q 1023 (nI c) (nI j) w m := by
        intro w hw
        unfold wb_X12_greatestOutcome_55
        intro x1 e1
        rw [e1, nI_ofNat 1, nI_add]
        exact ih (j + 1) w (by omega) (Or.inr ⟨by omega, hw⟩)
      have em : mxO O c (j + 1) = if mxO O c j < dg (O.1 j).1 c then dg (O.1 j).1 c else mxO O c j := rfl
      rcases hv with ⟨y, e⟩ | ⟨y, e⟩
      · subst y
        have e0 : mxO O c (0 + 1) = dg (O.1 0).1 c := by
          rw [em]
          show (if 0 < dg (O.1 0).1 c then dg (O.1 0).1 c else 0) = _
          split <;> omega
        rw [e]
        refine ⟨fun w => ?_, fun _ => nx _ (by rw [e0])⟩
        exfalso
        rw [Int32.le_iff_toInt_le, v99_toInt b2, show (-100 : Int32).toInt = -100 from rfl] at w
        omega
      · have b1 := mxO_le oo hc j (by omega)
        rw [e]
        refine ⟨fun w => nx _ ?_, fun w => nx _ ?_⟩
        · have := (v99_le b2 b1).mp w
          rw [em, if_neg (by omega)]
        · have : ¬ dg (O.1 j).1 c ≤ mxO O c j := fun x => w ((v99_le b2 b1).mpr x)
          rw [em, if_pos (by omega)]
  exact ⟨O.2 + 1, loop O.2 0 (-100) (by omega) (Or.inl ⟨rfl, rfl⟩)⟩
theorem k_greatestOutcome {B : Nat} {K : ct_M → Prop} {X : Prop} {p : Int32} {m : ct_M} (h : INV B m) (hB : B < 2 ^ 28) (hX : X) (hK : ∀ m', INV (B + 400) m' → K m') : wp_X11_greatestOutcome 0 p (fun r m1 => X ∧ wp_X12_greatestOutcome 1023 p (Same K r) m1) m := by
  have hk : ∀ x, K (ct_st m 1023 0 x) := fun x => hK _ ((INV_0 h x).mono (by omega))
  unfold wp_X11_greatestOutcome
  refine c_isCell' (fun c hc e => ⟨fun _ => ?_, fun y => absurd y (by decide)⟩) (fun e => ⟨fun y => absurd rfl y, fun _ => ⟨hX, ?_⟩⟩)
  · subst e
    obtain ⟨O, z, oo, both⟩ := sch_both h hB
    refine both _ (fun m1 ks fr ref => ?_)
    refine c_great hc oo ks ⟨hX, ?_⟩
    unfold wp_X12_greatestOutcome
    intro m2 e2
    subst e2
    refine r_noCell (fun c' hc' e' => ⟨fun _ => ?_, fun y => absurd rfl y⟩) (fun e => absurd rfl (e c hc))
    exact ref _ (fun m3 rk iv _ _ => r_great hc oo rk (Same.mk (hK m3 (iv.mono (by omega)))))
  · unfold wp_X12_greatestOutcome
    intro m2 e2
    subst e2
    exact r_noCell (fun c' hc' e' => absurd e' (e c' hc')) (fun _ => ⟨fun y => absurd y (by decide), fun _ => Same.mk (hk _)⟩)
/-! possibleOutcomes -/
noncomputable def cntA (P : Nat → Prop) : Nat → Nat
  | 0 => 0
  | j + 1 => cif (P j) (cntA P j + 1) (cntA P j)
theorem cntA_le {P : Nat → Prop} : ∀ j, cntA P j ≤ j := by
  intro j
  induction j with
  | zero => exact Nat.le_refl _
  | succ j ih =>
    by_cases y : P j
    · have : cntA P (j + 1) = cntA P j + 1 := cif_t y
      omega
    · have : cntA P (j + 1) = cntA P j := cif_f y
      omega
/-- the observations hold of an outcome: n of them, cells oc, values in row 1036 -/
def ObsOK (n : Nat) (oc : Nat → Nat) (ov : Row) (p : Pnt) : Prop := ∀ i, i < n → nI (dg p.1 (oc i)) - 99 = ov i
theorem c_allow {z : Nat → Bool} {p : Pnt} {n : Nat} {oc : Nat → Nat} {ov : Row} {Q : Int32 → ct_M → Prop} {m : ct_M} (hp : VP p.1) (hn : n ≤ 4) (h2 : m.1 8 2 = nI n) (ring : ∀ k, k < n → ∃ i, i < n ∧ oc i < 6 ∧ m.1 9 k = nI (oc i) ∧ m.1 10 k = ov i) (back : ∀ i, i < n → ∃ k, k < n ∧ m.1 9 k = nI (oc i) ∧ m.1 10 k = ov i ∧ oc i < 6)
    (h1 : ObsOK n oc ov p → Q 1 m) (h0 : ¬ ObsOK n oc ov p → Q 0 m) : wp_X3_allow 8 (kC z p) Q m := by
  have l9 : ct_ln (8 + 1) = 4 := by decide +kernel
  have l10 : ct_ln (8 + 2) = 4 := by decide +kernel
  have loop : ∀ (f k : Nat), k + f = n → (∀ k' c, k' < k → c < 6 → m.1 9 k' = nI c → nI (dg p.1 c) - 99 = m.1 10 k') → wb_X3_allow_2 Q (f + 1) 8 (kC z p) (nI k) m := by
    intro f
    induction f with
    | zero =>
      intro k hk hp2
      have : k = n := by omega
      subst this
      unfold wb_X3_allow_2
      rw [h2]
      refine ⟨fun _ => h1 fun i hi => ?_, fun y => absurd ((cmp_le (by omega) (by omega)).mpr (Nat.le_refl _)) y⟩
      obtain ⟨k', k1, k2, k3, k4⟩ := back i hi
      rw [← k3]
      exact hp2 k' _ k1 k4 k2
    | succ f ih =>
      intro k hk hp2
      obtain ⟨i, i1, i2, i3, i4⟩ := ring k (by omega)
      unfold wb_X3_allow_2
      rw [h2, l9, l10, cl (n := k) (by omega), show m.1 (8 + 1) k = nI (oc i) from i3]
      refine ⟨fun y => absurd ((cmp_le (by omega) (by omega)).mp y) (by omega), fun _ => ⟨fun y => absurd ((cmp_le (a := 4) (by decide) (by omega)).mp y) (by omega), fun _ => ⟨(vp_nI (by omega)).mpr (by omega), ?_⟩⟩⟩
      unfold kC
      refine cc_cell hp.1 (fun u _ => sT_lt _ u) i2 ?_
      rw [show m.1 (8 + 2) k = ov i from i4]
      refine ⟨(vp_nI (by omega)).mpr (by omega), fun y => ?_, fun y => h0 fun w => y (w i i1)⟩
      intro x8 e8
      rw [e8, nI_ofNat 1, nI_add]
      have := ih (k + 1) (by omega) (fun k' c k1 k2 k3 => ?_)
      · unfold kC at this; exact this
      · by_cases e : k' = k
        · subst e
          rw [i3] at k3
          have : oc i = c := (cmp_eq (by omega) (by omega)).mp k3
          rw [← this, i4]; exact y
        · exact hp2 k' c (by omega) k2 k3
  unfold wp_X3_allow
  exact ⟨n + 1, loop n 0 (by omega) (fun k' c hk' => absurd hk' (Nat.not_lt_zero k'))⟩
theorem c_poss {z : Nat → Bool} {O : EX} {n : Nat} {oc : Nat → Nat} {ov : Row} {Q : Int32 → ct_M → Prop} {m : ct_M} (oo : OutOK O) (ks : KSet m 968 O.2 (fun i => kC z (O.1 i))) (hn : n ≤ 4) (h2 : m.1 8 2 = nI n) (ring : ∀ k, k < n → ∃ i, i < n ∧ oc i < 6 ∧ m.1 9 k = nI (oc i) ∧ m.1 10 k = ov i) (back : ∀ i, i < n → ∃ k, k < n ∧ m.1 9 k = nI (oc i) ∧ m.1 10 k = ov i ∧ oc i < 6)
    (h : Q (nI (cntA (fun i => ObsOK n oc ov (O.1 i)) O.2)) m) : ∃ n, wb_X11_possibleOutcomes_15 Q n 0 (0 : Int32) (0 : Int32) m := by
  have l9 : ct_ln (0 + 964 + 4 + 1) = 1359 := by decide +kernel
  have loop : ∀ (f j : Nat), j + f = O.2 → wb_X11_possibleOutcomes_15 Q (f + 1) 0 (nI (cntA (fun i => ObsOK n oc ov (O.1 i)) j)) (nI j) m := by
    intro f
    have o2 := oo.2.1
    induction f with
    | zero =>
      intro j hj
      have : j = O.2 := by omega
      subst this
      unfold wb_X11_possibleOutcomes_15
      rw [show m.1 (0 + 964 + 4) 1 = nI O.2 from ks.2.1]
      exact ⟨fun _ => h, fun y => absurd ((cmp_le (by omega) (by omega)).mpr (Nat.le_refl _)) y⟩
    | succ f ih =>
      intro j hj
      have g := oo.1 j (by omega)
      have nx := ih (j + 1) (by omega)
      unfold wb_X11_possibleOutcomes_15
      rw [show m.1 (0 + 964 + 4) 1 = nI O.2 from ks.2.1, l9, cl (n := j) (by omega), show m.2 (0 + 964 + 4 + 1) j = kC z (O.1 j) from ks.2.2.1 j (by omega)]
      refine ⟨fun y => absurd ((cmp_le (by omega) (by omega)).mp y) (by omega), fun _ => ⟨fun y => absurd ((cmp_le (a := 1359) (by decide) (by omega)).mp y) (by omega), fun _ => ⟨(vp_nI (by omega)).mpr (by omega), ?_⟩⟩⟩
      rw [show 0 + 8 = 8 from rfl]
      refine c_allow g.1 hn h2 ring back (fun y => ⟨fun w => absurd w (by decide), fun _ => ?_⟩) (fun y => ⟨fun _ => ?_, fun w => absurd rfl w⟩)
      · intro x9 e9
        have e : cntA (fun i => ObsOK n oc ov (O.1 i)) (j + 1) = cntA (fun i => ObsOK n oc ov (O.1 i)) j + 1 := cif_t y
        rw [e] at nx
        unfold wb_X11_possibleOutcomes_61
        intro x1 e1
        rw [e1, e9, nI_ofNat 1, nI_add, nI_add]
        exact nx
      · have e : cntA (fun i => ObsOK n oc ov (O.1 i)) (j + 1) = cntA (fun i => ObsOK n oc ov (O.1 i)) j := cif_f y
        rw [e] at nx
        unfold wb_X11_possibleOutcomes_61
        intro x1 e1
        rw [e1, nI_ofNat 1, nI_add]
        exact nx
  exact ⟨O.2 + 1, loop O.2 0 (by omega)⟩
theorem r_poss {O : EX} {n : Nat} {oc : Nat → Nat} {ov : Row} {Q : Int32 → ct_M → Prop} {m : ct_M} (oo : OutOK O) (ks : RKey m 33 1046 O.2 (fun i => kR (O.1 i))) (hn : n ≤ 4) (h16 : m.1 1023 16 = nI n) (h35 : ∀ i, i < n → oc i < 6 ∧ m.1 1035 i = nI (oc i)) (h36 : ∀ i, i < n → m.1 1036 i = ov i)
    (h : Q (nI (cntA (fun i => ObsOK n oc ov (O.1 i)) O.2)) m) : ∃ n, wb_X12_possibleOutcomes_13 Q n 1023 (0 : Int32) (0 : Int32) m := by
  have l46 : ct_ln (1023 + 23) = 4096 := by decide
  have l35 : ct_ln (1023 + 12) = 4 := by decide
  have l36 : ct_ln (1023 + 13) = 4 := by decide
  have loop : ∀ (f j : Nat), j + f = O.2 → wb_X12_possibleOutcomes_13 Q (f + 1) 1023 (nI (cntA (fun i => ObsOK n oc ov (O.1 i)) j)) (nI j) m := by
    intro f
    have o2 := oo.2.1
    induction f with
    | zero =>
      intro j hj
      have : j = O.2 := by omega
      subst this
      unfold wb_X12_possibleOutcomes_13
      rw [ks.1]
      exact ⟨fun _ => h, fun y => absurd ((cmp_le (by omega) (by omega)).mpr (Nat.le_refl _)) y⟩
    | succ f ih =>
      intro j hj
      have g := oo.1 j (by omega)
      have nx := ih (j + 1) (by omega)
      have e46 : m.2 (1023 + 23) j = kR (O.1 j) := ks.2 j (by omega)
      unfold wb_X12_possibleOutcomes_13
      rw [ks.1]
      refine ⟨fun y => absurd ((cmp_le (by omega) (by omega)).mp y) (by omega), fun _ => ⟨n + 1, ?_⟩⟩
      have fin : ∀ s0 : Int32, (ObsOK n oc ov (O.1 j) → s0 = 1) → (¬ ObsOK n oc ov (O.1 j) → s0 = 0) → wb_X12_possibleOutcomes_87 (wb_X12_possibleOutcomes_13 Q (f + 1)) Q 1023 (nI j) s0 (nI (cntA (fun i => ObsOK n oc ov (O.1 i)) j)) m := by
        intro s0 a1 a0
        unfold wb_X12_possibleOutcomes_87
        intro x1 e1 x2 e2
        by_cases y : ObsOK n oc ov (O.1 j)
        · have e : cntA (fun i => ObsOK n oc ov (O.1 i)) (j + 1) = cntA (fun i => ObsOK n oc ov (O.1 i)) j + 1 := cif_t y
          rw [e] at nx
          rw [a1 y, nI_ofNat 1, nI_add] at e1
          rw [e1, e2, nI_ofNat 1, nI_add]
          exact nx
        · have e : cntA (fun i => ObsOK n oc ov (O.1 i)) (j + 1) = cntA (fun i => ObsOK n oc ov (O.1 i)) j := cif_f y
          rw [e] at nx
          rw [a0 y, Int32.add_zero] at e1
          rw [e1, e2, nI_ofNat 1, nI_add]
          exact nx
      have inner : ∀ (f' o : Nat) (v3 : Int32), o + f' = n → ((v3 = 1 ∧ ∀ i, i < o → nI (dg (O.1 j).1 (oc i)) - 99 = ov i) ∨ (v3 = 0 ∧ ∃ i, i < o ∧ ¬ nI (dg (O.1 j).1 (oc i)) - 99 = ov i)) → wb_X12_possibleOutcomes_26 (wb_X12_possibleOutcomes_13 Q (f + 1)) Q (f' + 1) 1023 (nI (cntA (fun i => ObsOK n oc ov (O.1 i)) j)) (nI j) v3 (nI o) m := by
        intro f'
        induction f' with
        | zero =>
          intro o v3 ho hv
          have : o = n := by omega
          subst this
          unfold wb_X12_possibleOutcomes_26
          rw [h16]
          refine ⟨fun _ => ⟨fun y => fin 0 (fun w => ?_) (fun _ => rfl), fun y => fin 1 (fun _ => rfl) (fun w => ?_)⟩, fun y => absurd ((cmp_le (by omega) (by omega)).mpr (Nat.le_refl _)) y⟩
          · rcases hv with ⟨e, -⟩ | ⟨-, i, hi, he⟩
            · rw [e] at y; exact absurd y (by decide)
            · exact absurd (w i hi) he
          · rcases hv with ⟨-, e⟩ | ⟨e, -⟩
            · exact absurd e w
            · exact absurd e y
        | succ f' ih' =>
          intro o v3 ho hv
          have on : o < n := by omega
          obtain ⟨c1, c2⟩ := h35 o on
          have step : ∀ s0 : Int32, ((s0 = 1 ∧ ∀ i, i < o + 1 → nI (dg (O.1 j).1 (oc i)) - 99 = ov i) ∨ (s0 = 0 ∧ ∃ i, i < o + 1 ∧ ¬ nI (dg (O.1 j).1 (oc i)) - 99 = ov i)) → wb_X12_possibleOutcomes_70 (wb_X12_possibleOutcomes_13 Q (f + 1)) (wb_X12_possibleOutcomes_26 (wb_X12_possibleOutcomes_13 Q (f + 1)) Q (f' + 1)) Q 1023 (nI (cntA (fun i => ObsOK n oc ov (O.1 i)) j)) (nI j) (nI o) s0 m := by
            intro s0 hs0
            unfold wb_X12_possibleOutcomes_70
            intro x1 e1
            rw [e1, nI_ofNat 1, nI_add]
            exact ih' (o + 1) s0 (by omega) hs0
          unfold wb_X12_possibleOutcomes_26 wb_X12_possibleOutcomes_69
          rw [h16, l46, l35, l36, cl (n := j) (by omega), cl (n := o) (by omega), e46, show m.1 (1023 + 12) o = nI (oc o) from c2]
          refine ⟨fun y => absurd ((cmp_le (by omega) (by omega)).mp y) (by omega), fun _ => ⟨fun y => step 0 (Or.inr ⟨rfl, ?_⟩), fun y => ⟨(vp_nI (by omega)).mpr (by omega), (vp_nI (by omega)).mpr (by omega), ?_⟩⟩⟩
          · rcases hv with ⟨e, -⟩ | ⟨-, i, hi, he⟩
            · rw [e] at y; exact absurd y (by decide)
            · exact ⟨i, by omega, he⟩
          · have hall : ∀ i, i < o → nI (dg (O.1 j).1 (oc i)) - 99 = ov i := by
              rcases hv with ⟨-, e⟩ | ⟨e, -⟩
              · exact e
              · exact absurd e y
            unfold kR
            refine rc_value g.1.2 g.2.1 c1 ?_
            rw [show m.1 (1023 + 13) o = ov o from h36 o on]
            refine ⟨(vp_nI (by omega)).mpr (by omega), fun w => step 0 (Or.inr ⟨rfl, o, by omega, w⟩), fun w => step 1 (Or.inl ⟨rfl, fun i hi => ?_⟩)⟩
            by_cases e : i = o
            · subst e; exact w
            · exact hall i (by omega)
      exact inner n 0 1 (by omega) (Or.inl ⟨rfl, fun i hi => absurd hi (Nat.not_lt_zero i)⟩)
  exact ⟨O.2 + 1, loop O.2 0 (by omega)⟩
theorem k_possibleOutcomes {B : Nat} {K : ct_M → Prop} {m : ct_M} (h : INV B m) (hB : B < 2 ^ 28) (hK : ∀ m', INV (B + 400) m' → K m') : wp_X11_possibleOutcomes 0 (fun r m1 => wp_X12_possibleOutcomes 1023 (Same K r) m1) m := by
  obtain ⟨O, z, oo, both⟩ := sch_both h hB
  obtain ⟨-, -, ⟨n, P, ⟨o1, o1'⟩, o2, o3, o4, o5, o6⟩, -⟩ := id h
  obtain ⟨oc, hoc⟩ : ∃ oc : Nat → Nat, ∀ i, oc i = (m.1 1035 i).toNatClampNeg := ⟨_, fun _ => rfl⟩
  have cells : ∀ i, i < n → oc i < 6 ∧ m.1 1035 i = nI (oc i) ∧ m.1 9 ((P + 4 - n + i) % 4) = nI (oc i) ∧ m.1 10 ((P + 4 - n + i) % 4) = m.1 1036 i := by
    intro i hi
    obtain ⟨⟨c, c1, c2, c3⟩, -, c5⟩ := o6 i hi
    have : oc i = c := by rw [hoc, c3, cl (by omega)]
    rw [this]
    exact ⟨c1, c3, c2, c5⟩
  unfold wp_X11_possibleOutcomes
  refine both _ (fun m1 ks fr ref => ?_)
  refine c_poss (n := n) (oc := oc) (ov := m.1 1036) oo ks o1 (by rw [fr 8 (by omega)]; exact o3) (fun k hk => ?_) (fun i hi => ?_) ?_
  · rw [fr 9 (by omega), fr 10 (by omega)]
    have hi : (k + 4 - P + n) % 4 < n ∧ (P + 4 - n + (k + 4 - P + n) % 4) % 4 = k := by
      by_cases c : n < 4
      · have := o1' c; omega
      · omega
    obtain ⟨a1, a2, a3, a4⟩ := cells _ hi.1
    rw [hi.2] at a3 a4
    exact ⟨_, hi.1, a1, a3, a4⟩
  · rw [fr 9 (by omega), fr 10 (by omega)]
    obtain ⟨a1, a2, a3, a4⟩ := cells i hi
    refine ⟨(P + 4 - n + i) % 4, ?_, a3, a4, a1⟩
    by_cases c : n < 4
    · have := o1' c; omega
    · omega
  · unfold wp_X12_possibleOutcomes
    intro m2 e2
    subst e2
    refine ref _ (fun m3 rk iv f35 f16 => ?_)
    refine r_poss (n := n) (oc := oc) (ov := m.1 1036) oo rk o1 (by rw [f16]; exact o5) (fun i hi => ⟨(cells i hi).1, by rw [f35 1035 (by omega)]; exact (cells i hi).2.1⟩) (fun i _ => by rw [f35 1036 (by omega)]) ?_
    exact Same.mk (hK m3 (iv.mono (by omega)))
