/-! the class's set of keys, with its table, and the reference's list -/
def hS (y : Int64) : Nat := (y * (-7046029254386353131 : Int64)).toBitVec.toNat / 2 ^ 53
theorem hS_lt (y : Int64) : hS y < 2048 := by
  have := (y * (-7046029254386353131 : Int64)).toBitVec.isLt
  unfold hS; omega
theorem hS_eq (y : Int64) : (((y * (-7046029254386353131 : Int64)).toUInt64 >>> ((53 : Int32).toInt64.toUInt64 &&& Int64.toUInt64 63)).toInt64).toInt32 = nI (hS y) := by
  obtain ⟨n, hn, e⟩ := wb_of (y * (-7046029254386353131 : Int64))
  have h2 : hS y = n / 2 ^ 53 := by unfold hS; rw [e, wb_tn hn]
  have h3 : (53 : Int32) = nI 53 := rfl
  rw [h2, e, h3, wb_shr hn (by omega), lN_to32 (by omega)]
theorem mask_2047 : ∀ k, k < 4096 → nI k &&& (2047 : Int32) = nI (k % 2048) := by
  have h : ∀ a, a < 64 → ∀ b, b < 64 → nI (64 * a + b) &&& (2047 : Int32) = nI ((64 * a + b) % 2048) := by decide +kernel
  intro k hk
  have := h (k / 64) (by omega) (k % 64) (by omega)
  rw [Nat.div_add_mod] at this
  exact this
def cntZ (tb : Row) : Nat → Nat
  | 0 => 0
  | i + 1 => cntZ tb i + (if tb i = 0 then 0 else 1)
theorem cnt_full {tb : Row} : ∀ {N : Nat}, (∀ i, i < N → ¬ tb i = 0) → cntZ tb N = N := by
  intro N
  induction N with
  | zero => intro _; rfl
  | succ N ih =>
    intro h
    show cntZ tb N + _ = _
    rw [ih fun i hi => h i (by omega), if_neg (h N (by omega))]
theorem cnt_upd_ge {tb : Row} {i : Nat} {x : Int32} : ∀ {N : Nat}, N ≤ i → cntZ (upd tb i x) N = cntZ tb N := by
  intro N
  induction N with
  | zero => intro _; rfl
  | succ N ih =>
    intro h
    show cntZ (upd tb i x) N + (if upd tb i x N = 0 then 0 else 1) = cntZ tb N + _
    rw [ih (by omega), upd_ne _ _ (by omega)]
theorem cnt_upd {tb : Row} {i : Nat} {x : Int32} (h0 : tb i = 0) (hx : ¬ x = 0) : ∀ {N : Nat}, i < N → cntZ (upd tb i x) N = cntZ tb N + 1 := by
  intro N
  induction N with
  | zero => intro h; omega
  | succ N ih =>
    intro h
    show cntZ (upd tb i x) N + (if upd tb i x N = 0 then 0 else 1) = cntZ tb N + (if tb N = 0 then 0 else 1) + 1
    by_cases e : N = i
    · subst e
      rw [cnt_upd_ge (Nat.le_refl _), upd_same, if_neg hx, if_pos h0]
    · rw [ih (by omega), upd_ne _ _ e]; omega
def TInv (tb : Row) (n : Nat) (key : Nat → Int64) : Prop := (∀ i, i < 2048 → ∃ e : Nat, e ≤ n ∧ tb i = nI e) ∧ (∀ k, k < n → ∃ d, d < 2048 ∧ tb ((hS (key k) + d) % 2048) = nI (k + 1) ∧ ∀ d', d' < d → ¬ tb ((hS (key k) + d') % 2048) = 0) ∧ cntZ tb 2048 ≤ n
def KSet (m : ct_M) (b n : Nat) (key : Nat → Int64) : Prop := n ≤ 1359 ∧ m.1 b 1 = nI n ∧ (∀ k, k < n → m.2 (b + 1) k = key k) ∧ TInv (m.1 (b + 2)) n key
def kAdd {α : Type} (key : Nat → α) (n : Nat) (y : α) : Nat → α := fun i => if i = n then y else key i
def KFr (b : Nat) (m m' : ct_M) : Prop := (∀ q, q ≠ b → q ≠ b + 2 → m'.1 q = m.1 q) ∧ ∀ q, q ≠ b + 1 → m'.2 q = m.2 q
theorem sL_2 {m : ct_M} {a j q : Nat} {x : Int64} (h : q ≠ a) : (ct_sL m a j x).2 q = m.2 q := va_up_ne _ _ h
theorem sL_2k {m : ct_M} {a j k : Nat} {x : Int64} : (ct_sL m a j x).2 a k = if k = j then x else m.2 a k := by
  unfold ct_sL
  show va_up m.2 a (vp_updL (m.2 a) j x) a k = _
  rw [va_up_self]
  rfl
theorem c_addKey {b n : Nat} {key : Nat → Int64} {y : Int64} {Q : ct_M → Prop} {m : ct_M} (hb : b = 965 ∨ b = 968) (hK : KSet m b n key)
    (h1 : ∀ k, k < n → key k = y → Q m) (h0 : (∀ k, k < n → ¬ key k = y) → n < 1359 ∧ ∀ m', KFr b m m' → KSet m' b (n + 1) (kAdd key n y) → Q m') : wp_X2_add b y Q m := by
  obtain ⟨hn, hs, hk, ht1, ht2, ht3⟩ := hK
  have l1 : ct_ln (b + 1) = 1359 := by rcases hb with e | e <;> subst e <;> decide +kernel
  have l2 : ct_ln (b + 2) = 2048 := by rcases hb with e | e <;> subst e <;> decide +kernel
  have hh := hS_lt y
  have loop : ∀ (f j : Nat), j + f = 2048 → (∀ j', j' < j → ∃ e : Nat, 0 < e ∧ e ≤ n ∧ m.1 (b + 2) ((hS y + j') % 2048) = nI e ∧ ¬ key (e - 1) = y) → wb_X2_add_13 Q (f + 1) b y (nI (hS y)) (nI j) m := by
    intro f
    induction f with
    | zero =>
      intro j hj hp
      have : j = 2048 := by omega
      subst this
      exfalso
      have full : ∀ i, i < 2048 → ¬ m.1 (b + 2) i = 0 := by
        intro i hi
        obtain ⟨e, e1, e2, e3, -⟩ := hp ((i + 2048 - hS y) % 2048) (by omega)
        rw [show (hS y + (i + 2048 - hS y) % 2048) % 2048 = i by omega] at e3
        rw [e3]
        exact fun z => by have := (cmp_eq (b := 0) (by omega) (by decide)).mp z; omega
      have := cnt_full full
      omega
    | succ f ih =>
      intro j hj hp
      have hx2 : nI (hS y) + nI j &&& (2047 : Int32) = nI ((hS y + j) % 2048) := by rw [nI_add, mask_2047 _ (by omega)]
      have hi : (hS y + j) % 2048 < 2048 := Nat.mod_lt _ (by decide)
      obtain ⟨e, he, hte⟩ := ht1 _ hi
      unfold wb_X2_add_13
      refine ⟨fun z => absurd ((cmp_le (a := 2048) (by decide) (by omega)).mp z) (by omega), fun _ => ?_⟩
      intro x2 e2
      rw [hx2] at e2
      subst e2
      rw [l2, cl (by omega)]
      refine ⟨(vp_nI (by omega)).mpr hi, ?_⟩
      intro x4 e4
      rw [hte] at e4
      subst e4
      refine ⟨fun z => ?_, fun z => ⟨fun z2 => ?_, fun z2 => absurd ((cmp_le (b := 1359) (by omega) (by decide)).mpr (by omega)) z2⟩⟩
      · have e0 : e = 0 := by have := (cmp_lt (b := 1) (by omega) (by decide)).mp z; omega
        subst e0
        have hte : m.1 (b + 2) ((hS y + j) % 2048) = 0 := hte
        have absent : ∀ k, k < n → ¬ key k = y := by
          intro k hk2 ek
          obtain ⟨d, d1, d2, d3⟩ := ht2 k hk2
          rw [ek] at d2 d3
          have hdj : d < j := by
            refine Nat.lt_of_not_le fun w => ?_
            by_cases ej : d = j
            · subst ej
              rw [d2] at hte
              have := (cmp_eq (b := 0) (by omega) (by decide)).mp hte
              omega
            · exact d3 j (by omega) hte
          obtain ⟨e', f1, f2, f3, f4⟩ := hp d hdj
          rw [d2] at f3
          have : k + 1 = e' := (cmp_eq (by omega) (by omega)).mp f3
          subst this
          exact f4 ek
        obtain ⟨hn2, hq⟩ := h0 absent
        unfold wb_X2_add_54 wp_X2_insert
        rw [hs]
        refine ⟨fun w => absurd ((cmp_le (a := 1359) (by decide) (by omega)).mp w) (by omega), fun _ => ⟨fun w => absurd w (nI_pos (by omega)), fun _ => ⟨fun w => absurd ((cmp_le (a := 2048) (by decide) (by omega)).mp w) (by omega), fun _ => ?_⟩⟩⟩
        rw [l1, l2, cl (by omega), cl (by omega)]
        refine ⟨(vp_nI (by omega)).mpr hn2, ?_⟩
        intro m5 e5 m6 e6
        have a5 : m5.1 = m.1 := by subst e5; rfl
        rw [a5, hs, nI_ofNat 1, nI_add] at e6
        refine ⟨(vp_nI (by omega)).mpr hi, ?_⟩
        intro m8 e8
        have s6 : m6.1 b 1 = nI (n + 1) := by subst e6; rw [ct_st_eq, upd_same]
        rw [s6] at e8
        have f1 : ∀ q, q ≠ b → q ≠ b + 2 → m8.1 q = m.1 q := fun q q1 q2 => by subst e8 e6; rw [ct_st_ne q2, ct_st_ne q1, a5]
        have t8 : m8.1 (b + 2) = upd (m.1 (b + 2)) ((hS y + j) % 2048) (nI (n + 1)) := by
          subst e8 e6; rw [ct_st_eq, ct_st_ne (by omega), a5]
        have k8 : ∀ k, m8.2 (b + 1) k = if k = n then y else m.2 (b + 1) k := by
          intro k
          subst e8 e6 e5
          exact sL_2k
        refine hq m8 ⟨f1, fun q q1 => ?_⟩ ⟨by omega, ?_, fun k hk2 => ?_, ?_, ?_, ?_⟩
        · subst e8 e6 e5; exact sL_2 q1
        · subst e8; rw [ct_st_ne (by omega)]; exact s6
        · rw [k8]
          unfold kAdd
          by_cases ek : k = n
          · rw [if_pos ek, if_pos ek]
          · rw [if_neg ek, if_neg ek]; exact hk k (by omega)
        · intro i hi2
          rw [t8]
          by_cases ei : i = (hS y + j) % 2048
          · subst ei; rw [upd_same]; exact ⟨n + 1, Nat.le_refl _, rfl⟩
          · rw [upd_ne _ _ ei]
            obtain ⟨e', g1, g2⟩ := ht1 i hi2
            exact ⟨e', by omega, g2⟩
        · intro k hk2
          rw [t8]
          have keep : ∀ i, ¬ m.1 (b + 2) i = 0 → upd (m.1 (b + 2)) ((hS y + j) % 2048) (nI (n + 1)) i = m.1 (b + 2) i := fun i hi2 => upd_ne _ _ (fun w => by rw [w] at hi2; exact hi2 hte)
          unfold kAdd
          by_cases ek : k = n
          · subst ek
            rw [if_pos rfl]
            refine ⟨j, by omega, by rw [upd_same], fun d' hd => ?_⟩
            obtain ⟨e', g1, g2, g3, -⟩ := hp d' hd
            have nz : ¬ m.1 (b + 2) ((hS y + d') % 2048) = 0 := by
              rw [g3]
              exact fun z => by have := (cmp_eq (b := 0) (by omega) (by decide)).mp z; omega
            rw [keep _ nz]; exact nz
          · rw [if_neg ek]
            obtain ⟨d, d1, d2, d3⟩ := ht2 k (by omega)
            have nz : ¬ m.1 (b + 2) ((hS (key k) + d) % 2048) = 0 := by
              rw [d2]
              exact fun z => by have := (cmp_eq (b := 0) (by omega) (by decide)).mp z; omega
            exact ⟨d, d1, by rw [keep _ nz]; exact d2, fun d' hd => by rw [keep _ (d3 d' hd)]; exact d3 d' hd⟩
        · rw [t8, cnt_upd hte (fun z => by have := (cmp_eq (b := 0) (by omega) (by decide)).mp z; omega) hi]
          omega
      · have e0 : 0 < e := by
          refine Nat.pos_of_ne_zero fun w => z ?_
          rw [w]; decide
        have e1 : nI e - 1 = nI (e - 1) := by
          have := nI_pred (e - 1)
          rw [show e - 1 + 1 = e by omega] at this
          exact this
        rw [e1, l1, cl (by omega), hk (e - 1) (by omega)]
        refine ⟨(vp_nI (by omega)).mpr (by omega), fun w => ?_, fun w => h1 (e - 1) (by omega) (lg_eq.mp w)⟩
        intro x9 e9
        rw [e9, nI_ofNat 1, nI_add]
        refine ih (j + 1) (by omega) (fun j' hj' => ?_)
        by_cases ej : j' = j
        · subst ej
          exact ⟨e, e0, he, hte, fun w2 => w (lg_eq.mpr w2)⟩
        · exact hp j' (by omega)
  unfold wp_X2_add
  intro x1 e1
  rw [hS_eq] at e1
  rw [e1]
  exact ⟨2049, loop 2048 0 (by omega) (fun j' hj' => absurd hj' (Nat.not_lt_zero j'))⟩
theorem c_zeroN {a N : Nat} {Q : ct_M → Prop} {m : ct_M} (hN : N < 2 ^ 20) (ha : ct_ln a = N) (h : ∀ v : Row, (∀ i, i < N → v i = 0) → Q (pr m a v)) : wp_J7_fill_53178 a (0 : Int32) Q m := by
  have loop : ∀ (n j : Nat) (v : Row), j + n = N → (∀ i, i < j → v i = 0) → wb_J7_fill_53178_5 Q (n + 1) a (0 : Int32) (nI j) (nI N) (pr m a v) := by
    intro n
    induction n with
    | zero =>
      intro j v hj hv
      have : j = N := by omega
      subst this
      unfold wb_J7_fill_53178_5
      exact ⟨fun _ => h v hv, fun z => absurd ((cmp_le (by omega) (by omega)).mpr (Nat.le_refl _)) z⟩
    | succ n ih =>
      intro j v hj hv
      unfold wb_J7_fill_53178_5
      refine ⟨fun z => absurd ((cmp_le (by omega) (by omega)).mp z) (by omega), fun _ => ?_⟩
      rw [ha]
      refine ⟨(vp_nI (by omega)).mpr (by omega), ?_⟩
      intro m2 e2 x3 h3
      rw [cl (by omega), pr_st, pr_pr, pr_at] at e2
      rw [h3, nI_ofNat 1, nI_add, e2]
      refine ih (j + 1) _ (by omega) (fun i hi => ?_)
      by_cases e : i = j
      · subst e; exact upd_same _ _ _
      · rw [upd_ne _ _ e]; exact hv i (by omega)
  unfold wp_J7_fill_53178
  intro x1 h1
  rw [ha] at h1
  rw [h1]
  refine ⟨N + 1, ?_⟩
  have := loop N 0 (m.1 a) (by omega) (fun i hi => absurd hi (Nat.not_lt_zero i))
  rw [pr_id] at this
  exact this
theorem cnt_zero {tb : Row} : ∀ {N : Nat}, (∀ i, i < N → tb i = 0) → cntZ tb N = 0 := by
  intro N
  induction N with
  | zero => intro _; rfl
  | succ N ih =>
    intro h
    show cntZ tb N + _ = _
    rw [ih fun i hi => h i (by omega), if_pos (h N (by omega))]
theorem c_clearKeys {b : Nat} {key : Nat → Int64} {Q : ct_M → Prop} {m : ct_M} (hb : b = 965 ∨ b = 968) (h : ∀ m', KFr b m m' → KSet m' b 0 key → Q m') : wp_X2_clear b Q m := by
  have l2 : ct_ln (b + 2) = 2048 := by rcases hb with e | e <;> subst e <;> decide +kernel
  unfold wp_X2_clear
  intro m1 e1
  refine c_zeroN (by decide) l2 (fun v hv => ?_)
  refine h _ ⟨fun q q1 q2 => by rw [pr_ne _ _ q2]; subst e1; exact ct_st_ne q1, fun q _ => by subst e1; rfl⟩ ⟨by omega, ?_, fun k hk => absurd hk (Nat.not_lt_zero k), fun i hi => ⟨0, Nat.le_refl _, by rw [pr_at]; exact hv i hi⟩, fun k hk => absurd hk (Nat.not_lt_zero k), ?_⟩
  · rw [pr_ne _ _ (by omega)]; subst e1; rw [ct_st_eq, upd_same]; rfl
  · rw [pr_at, cnt_zero hv]; exact Nat.le_refl 0
/-- the reference's lists: j the count's place, c the cell -/
def RKey (m : ct_M) (j c n : Nat) (key : Nat → Int64) : Prop := m.1 1023 j = nI n ∧ ∀ k, k < n → m.2 c k = key k
def RFr (j c : Nat) (m m' : ct_M) : Prop := (∀ q, q ≠ 1023 → m'.1 q = m.1 q) ∧ (∀ i, i ≠ j → m'.1 1023 i = m.1 1023 i) ∧ ∀ q, q ≠ c → m'.2 q = m.2 q
theorem r_addKey {n : Nat} {key : Nat → Int64} {y : Int64} {Q : ct_M → Prop} {m : ct_M} (hn : n < 4096) (hK : RKey m 31 1045 n key) (h1 : ∀ k, k < n → key k = y → Q m) (h0 : (∀ k, k < n → ¬ key k = y) → ∀ m', RFr 31 1045 m m' → RKey m' 31 1045 (n + 1) (kAdd key n y) → Q m') : wp_X12_addKey 1023 y Q m := by
  obtain ⟨hs, hk⟩ := hK
  have l1 : ct_ln (1023 + 22) = 4096 := by decide
  have loop : ∀ (f j : Nat), j + f = n → (∀ k, k < j → ¬ key k = y) → wb_X12_addKey_2 Q (f + 1) 1023 y (nI j) m := by
    intro f
    induction f with
    | zero =>
      intro j hj hp
      have : j = n := by omega
      subst this
      unfold wb_X12_addKey_2
      rw [hs, l1, cl (by omega)]
      refine ⟨fun _ => ⟨(vp_nI (by omega)).mpr hn, ?_⟩, fun z => absurd ((cmp_le (by omega) (by omega)).mpr (Nat.le_refl _)) z⟩
      intro m3 e3 m4 e4
      have a3 : m3.1 = m.1 := by subst e3; rfl
      rw [a3, hs, nI_ofNat 1, nI_add] at e4
      refine h0 hp m4 ⟨fun q hq => by subst e4; rw [ct_st_ne hq, a3], fun i hi => by subst e4; rw [ct_st_eq, upd_ne _ _ hi, a3], fun q hq => by subst e4 e3; exact sL_2 hq⟩ ⟨by subst e4; rw [ct_st_eq, upd_same], fun k hk2 => ?_⟩
      have : m4.2 1045 k = if k = j then y else m.2 1045 k := by
        subst e4 e3
        show (ct_sL m 1045 j y).2 1045 k = _
        exact sL_2k
      rw [this]
      unfold kAdd
      by_cases ek : k = j
      · rw [if_pos ek, if_pos ek]
      · rw [if_neg ek, if_neg ek]; exact hk k (by omega)
    | succ f ih =>
      intro j hj hp
      unfold wb_X12_addKey_2
      rw [hs, l1, cl (n := j) (by omega)]
      refine ⟨fun z => absurd ((cmp_le (by omega) (by omega)).mp z) (by omega), fun _ => ⟨(vp_nI (by omega)).mpr (by omega), ?_⟩⟩
      rw [show m.2 (1023 + 22) j = key j from hk j (by omega)]
      refine ⟨fun w => ?_, fun w => h1 j (by omega) (lg_eq.mp w)⟩
      intro x7 e7
      rw [e7, nI_ofNat 1, nI_add]
      refine ih (j + 1) (by omega) (fun k hk2 => ?_)
      by_cases ek : k = j
      · subst ek; exact fun w2 => w (lg_eq.mpr w2)
      · exact hp k (by omega)
  unfold wp_X12_addKey
  exact ⟨n + 1, loop n 0 (by omega) (fun k hk2 => absurd hk2 (Nat.not_lt_zero k))⟩
theorem r_addOut {n : Nat} {key : Nat → Int64} {p y : Int64} {Q : ct_M → Prop} {m : ct_M} (hn : n < 4096) (hy : p &&& (-3277 : Int64) = y) (hK : RKey m 33 1046 n key) (h1 : ∀ k, k < n → key k = y → Q m) (h0 : (∀ k, k < n → ¬ key k = y) → ∀ m', RFr 33 1046 m m' → RKey m' 33 1046 (n + 1) (kAdd key n y) → Q m') : wp_X12_addOutcome 1023 p Q m := by
  obtain ⟨hs, hk⟩ := hK
  have l1 : ct_ln (1023 + 23) = 4096 := by decide
  have loop : ∀ (f j : Nat), j + f = n → (∀ k, k < j → ¬ key k = y) → wb_X12_addOutcome_9 Q (f + 1) 1023 y (nI j) m := by
    intro f
    induction f with
    | zero =>
      intro j hj hp
      have : j = n := by omega
      subst this
      unfold wb_X12_addOutcome_9
      rw [hs, l1, cl (by omega)]
      refine ⟨fun _ => ⟨(vp_nI (by omega)).mpr hn, ?_⟩, fun z => absurd ((cmp_le (by omega) (by omega)).mpr (Nat.le_refl _)) z⟩
      intro m3 e3 m4 e4
      have a3 : m3.1 = m.1 := by subst e3; rfl
      rw [a3, hs, nI_ofNat 1, nI_add] at e4
      refine h0 hp m4 ⟨fun q hq => by subst e4; rw [ct_st_ne hq, a3], fun i hi => by subst e4; rw [ct_st_eq, upd_ne _ _ hi, a3], fun q hq => by subst e4 e3; exact sL_2 hq⟩ ⟨by subst e4; rw [ct_st_eq, upd_same], fun k hk2 => ?_⟩
      have : m4.2 1046 k = if k = j then y else m.2 1046 k := by
        subst e4 e3
        show (ct_sL m 1046 j y).2 1046 k = _
        exact sL_2k
      rw [this]
      unfold kAdd
      by_cases ek : k = j
      · rw [if_pos ek, if_pos ek]
      · rw [if_neg ek, if_neg ek]; exact hk k (by omega)
    | succ f ih =>
      intro j hj hp
      unfold wb_X12_addOutcome_9
      rw [hs, l1, cl (n := j) (by omega)]
      refine ⟨fun z => absurd ((cmp_le (by omega) (by omega)).mp z) (by omega), fun _ => ⟨(vp_nI (by omega)).mpr (by omega), ?_⟩⟩
      rw [show m.2 (1023 + 23) j = key j from hk j (by omega)]
      refine ⟨fun w => ?_, fun w => h1 j (by omega) (lg_eq.mp w)⟩
      intro x7 e7
      rw [e7, nI_ofNat 1, nI_add]
      refine ih (j + 1) (by omega) (fun k hk2 => ?_)
      by_cases ek : k = j
      · subst ek; exact fun w2 => w (lg_eq.mpr w2)
      · exact hp k (by omega)
  unfold wp_X12_addOutcome
  intro x1 e1
  rw [hy] at e1
  rw [e1]
  exact ⟨n + 1, loop n 0 (by omega) (fun k hk2 => absurd hk2 (Nat.not_lt_zero k))⟩
