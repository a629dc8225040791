/-! load: the reference copies what it has read -/
def rFresh (T : Nat) (a b : Nat → Int32) : Row := fun i => if i < 6 then a i else if i = 72 ∧ 0 < T then b 0 else if i = 121 ∧ 1 < T then b 1 else if i = 170 ∧ 2 < T then b 2 else 0
def LFr (m m' : ct_M) : Prop := m'.2 = m.2 ∧ (∀ q, (q < 1023 ∨ q = 1024 ∨ (1030 < q ∧ q ≠ 1034)) → m'.1 q = m.1 q) ∧ ∀ j, j ≠ 13 → m'.1 1023 j = m.1 1023 j
theorem LFr.rf {m : ct_M} : LFr m m := ⟨rfl, fun _ _ => rfl, fun _ _ => rfl⟩
theorem LFr.tr {m m' m'' : ct_M} (h : LFr m m') (g : LFr m' m'') : LFr m m'' := ⟨g.1.trans h.1, fun q a => (g.2.1 q a).trans (h.2.1 q a), fun j a => (g.2.2 j a).trans (h.2.2 j a)⟩
theorem LFr.st {q j : Nat} {m : ct_M} {x : Int32} (h : 1024 < q) (h2 : q ≤ 1030 ∨ q = 1034) : LFr m (ct_st m q j x) := ⟨rfl, fun i hi => ct_st_ne (by omega), fun i _ => by rw [ct_st_ne (by omega)]⟩
theorem r_load110 {Q : Int32 → ct_M → Prop} {m : ct_M} (h : ∀ m', LFr m m' → m'.1 1030 = m.1 1030 → m'.1 1025 = m.1 1025 → (∀ k, k < 4 → ∀ i, i < 180 → m'.1 (1026 + k) i = m.1 (1040 + k) i) → m'.1 1023 13 = 0 → m'.1 1034 0 = 0 → m'.1 1034 1 = 0 → Q (m'.1 1023 4) m') : ∃ n, wb_X12_load_110 Q n 1023 (0 : Int32) m := by
  have l26 : ct_ln (1023 + 3) = 180 := by decide
  have l27 : ct_ln (1023 + 4) = 180 := by decide
  have l28 : ct_ln (1023 + 5) = 180 := by decide
  have l29 : ct_ln (1023 + 6) = 180 := by decide
  have l40 : ct_ln (1023 + 17) = 180 := by decide
  have l41 : ct_ln (1023 + 18) = 180 := by decide
  have l42 : ct_ln (1023 + 19) = 180 := by decide
  have l43 : ct_ln (1023 + 20) = 180 := by decide
  have l34 : ct_ln (1023 + 11) = 2 := by decide
  have b0 : vp_nar .boolean (0 : Int32) = 0 := by decide
  have loop : ∀ (n j : Nat) (m1 : ct_M), j + n = 180 → LFr m m1 → m1.1 1030 = m.1 1030 → m1.1 1025 = m.1 1025 → (∀ k, k < 4 → ∀ i, i < j → m1.1 (1026 + k) i = m.1 (1040 + k) i) → wb_X12_load_110 Q (n + 1) 1023 (nI j) m1 := by
    intro n
    induction n with
    | zero =>
      intro j m1 hj f1 r1 t1 c1
      have : j = 180 := by omega
      subst this
      unfold wb_X12_load_110
      refine ⟨fun _ => ?_, fun z => absurd ((cmp_le (a := 180) (by decide) (by decide)).mpr (Nat.le_refl _)) z⟩
      intro m2 e2
      refine ⟨(vp_nI (n := 0) (by decide)).mpr (by decide), ?_⟩
      intro m4 e4
      refine ⟨(vp_nI (n := 1) (by decide)).mpr (by decide), ?_⟩
      intro m5 e5
      rw [b0] at e4 e5
      have f5 : LFr m1 m5 := by
        subst e5 e4 e2
        exact ((show LFr m1 (ct_st m1 1023 13 0) from ⟨rfl, fun i hi => ct_st_ne (by omega), fun i hi => by rw [ct_st_eq, upd_ne _ _ hi]⟩).tr (LFr.st (by decide) (by decide))).tr (LFr.st (by decide) (by decide))
      have o5 : ∀ q, q ≠ 1023 → q ≠ 1034 → m5.1 q = m1.1 q := fun q q1 q2 => by subst e5 e4 e2; rw [ct_st_ne q2, ct_st_ne q2, ct_st_ne q1]
      refine h m5 (f1.tr f5) (by rw [o5 _ (by decide) (by decide)]; exact r1) (by rw [o5 _ (by decide) (by decide)]; exact t1) (fun k hk i hi => by rw [o5 _ (by omega) (by omega)]; exact c1 k hk i hi) ?_ ?_ ?_
      · subst e5 e4 e2; rw [ct_st_ne (by decide), ct_st_ne (by decide), ct_st_eq, upd_same]
      · subst e5 e4; rw [show 1023 + 11 = 1034 from rfl, ct_st_eq, ct_st_eq]; rfl
      · subst e5; rw [show 1023 + 11 = 1034 from rfl, ct_st_eq]; rfl
    | succ n ih =>
      intro j m1 hj f1 r1 t1 c1
      unfold wb_X12_load_110
      refine ⟨fun z => absurd ((cmp_le (a := 180) (by decide) (by omega)).mp z) (by omega), fun _ => ?_⟩
      simp (disch := omega) only [vp_nI, cl, l26, l27, l28, l29, l40, l41, l42, l43]
      refine ⟨by omega, by omega, ?_⟩
      intro m8 e8
      refine ⟨by omega, by omega, ?_⟩
      intro m11 e11
      refine ⟨by omega, by omega, ?_⟩
      intro m14 e14
      refine ⟨by omega, by omega, ?_⟩
      intro m17 e17 x18 h18
      have s8 : ∀ q, q ≠ 1026 → m8.1 q = m1.1 q := fun q hq => by subst e8; exact ct_st_ne hq
      have s11 : ∀ q, q ≠ 1027 → m11.1 q = m8.1 q := fun q hq => by subst e11; exact ct_st_ne hq
      have s14 : ∀ q, q ≠ 1028 → m14.1 q = m11.1 q := fun q hq => by subst e14; exact ct_st_ne hq
      have s17 : ∀ q, q ≠ 1029 → m17.1 q = m14.1 q := fun q hq => by subst e17; exact ct_st_ne hq
      have far : ∀ q, q ≠ 1026 → q ≠ 1027 → q ≠ 1028 → q ≠ 1029 → m17.1 q = m1.1 q := fun q a b c d => by rw [s17 q d, s14 q c, s11 q b, s8 q a]
      have src : ∀ k, k < 4 → m1.1 (1040 + k) = m.1 (1040 + k) := fun k hk => f1.2.1 _ (by omega)
      have a8 : m8.1 1026 = upd (m1.1 1026) j (m.1 1040 j) := by subst e8; rw [show 1023 + 3 = 1026 from rfl, ct_st_eq, show 1023 + 17 = 1040 + 0 from rfl, src 0 (by omega)]
      have a11 : m11.1 1027 = upd (m1.1 1027) j (m.1 1041 j) := by subst e11; rw [show 1023 + 4 = 1027 from rfl, ct_st_eq, s8 _ (by decide), s8 _ (by decide), show 1023 + 18 = 1040 + 1 from rfl, src 1 (by omega)]
      have a14 : m14.1 1028 = upd (m1.1 1028) j (m.1 1042 j) := by subst e14; rw [show 1023 + 5 = 1028 from rfl, ct_st_eq, s11 _ (by decide), s11 _ (by decide), s8 _ (by decide), s8 _ (by decide), show 1023 + 19 = 1040 + 2 from rfl, src 2 (by omega)]
      have a17 : m17.1 1029 = upd (m1.1 1029) j (m.1 1043 j) := by subst e17; rw [show 1023 + 6 = 1029 from rfl, ct_st_eq, s14 _ (by decide), s14 _ (by decide), s11 _ (by decide), s11 _ (by decide), s8 _ (by decide), s8 _ (by decide), show 1023 + 20 = 1040 + 3 from rfl, src 3 (by omega)]
      rw [h18, nI_ofNat 1, nI_add]
      refine ih (j + 1) m17 (by omega) (f1.tr ⟨by subst e17 e14 e11 e8; rfl, fun q hq => far q (by omega) (by omega) (by omega) (by omega), fun i _ => by rw [far _ (by decide) (by decide) (by decide) (by decide)]⟩) (by rw [far _ (by decide) (by decide) (by decide) (by decide)]; exact r1) (by rw [far _ (by decide) (by decide) (by decide) (by decide)]; exact t1) (fun k hk i hi => ?_)
      have hh : ∀ (u u' : Row) (y : Int32) (w : Row), u' = upd u j y → (∀ i, i < j → u i = w i) → y = w j → u' i = w i := by
        intro u u' y w e1 e2 e3
        rw [e1]
        by_cases e : i = j
        · subst e; rw [upd_same]; exact e3
        · rw [upd_ne _ _ e]; exact e2 i (by omega)
      have : k = 0 ∨ k = 1 ∨ k = 2 ∨ k = 3 := by omega
      rcases this with z | z | z | z <;> subst z
      · exact hh (m1.1 1026) _ _ _ (by rw [show 1026 + 0 = 1026 from rfl, s17 _ (by decide), s14 _ (by decide), s11 _ (by decide)]; exact a8) (c1 0 (by omega)) rfl
      · exact hh (m1.1 1027) _ _ _ (by rw [show 1026 + 1 = 1027 from rfl, s17 _ (by decide), s14 _ (by decide)]; exact a11) (c1 1 (by omega)) rfl
      · exact hh (m1.1 1028) _ _ _ (by rw [show 1026 + 2 = 1028 from rfl, s17 _ (by decide)]; exact a14) (c1 2 (by omega)) rfl
      · exact hh (m1.1 1029) _ _ _ a17 (c1 3 (by omega)) rfl
  exact ⟨181, loop 180 0 m (by omega) LFr.rf rfl rfl (fun k _ i hi => absurd hi (Nat.not_lt_zero i))⟩
theorem rFresh_s {t : Nat} {a b : Nat → Int32} (ht : t < 3) : rFresh (t + 1) a b = upd (rFresh t a b) (25 + 49 * t + 47) (b t) := by
  funext i
  unfold rFresh
  simp only [upd]
  have : t = 0 ∨ t = 1 ∨ t = 2 := by omega
  rcases this with z | z | z <;> subst z
  · by_cases e : i = 72
    · subst e; rfl
    · rw [if_neg (show ¬ i = 25 + 49 * 0 + 47 by omega)]
      (repeat' split) <;> first | rfl | (exfalso; omega)
  · by_cases e : i = 121
    · subst e; rfl
    · rw [if_neg (show ¬ i = 25 + 49 * 1 + 47 by omega)]
      (repeat' split) <;> first | rfl | (exfalso; omega)
  · by_cases e : i = 170
    · subst e; rfl
    · rw [if_neg (show ¬ i = 25 + 49 * 2 + 47 by omega)]
      (repeat' split) <;> first | rfl | (exfalso; omega)
theorem r_load64 {T : Nat} {a b : Nat → Int32} {Q : Int32 → ct_M → Prop} {m : ct_M} (hT : T ≤ 3) (h4 : m.1 1023 4 = nI T) (h30 : ∀ i, i < 172 → m.1 1030 i = rFresh 0 a b i) (hb : ∀ t, t < T → m.1 1038 t = b t)
    (h : ∀ m', LFr m m' → (∀ i, i < 172 → m'.1 1030 i = rFresh T a b i) → (∀ t, t < T → m'.1 1025 t = m.1 1039 t) → (∀ k, k < 4 → ∀ i, i < 180 → m'.1 (1026 + k) i = m.1 (1040 + k) i) → m'.1 1023 13 = 0 → m'.1 1034 0 = 0 → m'.1 1034 1 = 0 → Q (nI T) m') : ∃ n, wb_X12_load_64 Q n 1023 (0 : Int32) m := by
  have l25 : ct_ln (1023 + 2) = 3 := by decide
  have l30 : ct_ln (1023 + 7) = 172 := by decide
  have l38 : ct_ln (1023 + 15) = 3 := by decide
  have l39 : ct_ln (1023 + 16) = 3 := by decide
  have loop : ∀ (n t : Nat) (m1 : ct_M), t + n = T → LFr m m1 → (∀ i, i < 172 → m1.1 1030 i = rFresh t a b i) → (∀ s, s < t → m1.1 1025 s = m.1 1039 s) → wb_X12_load_64 Q (n + 1) 1023 (nI t) m1 := by
    intro n
    induction n with
    | zero =>
      intro t m1 ht f1 r1 t1
      have : t = T := by omega
      subst this
      unfold wb_X12_load_64
      rw [f1.2.2 4 (by decide), h4]
      refine ⟨fun _ => ?_, fun z => absurd ((cmp_le (by omega) (by omega)).mpr (Nat.le_refl _)) z⟩
      refine r_load110 (fun m2 f2 r2 t2 c2 a1 a2 a3 => ?_)
      rw [f2.2.2 4 (by decide), f1.2.2 4 (by decide), h4]
      exact h m2 (f1.tr f2) (fun i hi => by rw [r2]; exact r1 i hi) (fun s hs => by rw [t2]; exact t1 s hs) (fun k hk i hi => by rw [c2 k hk i hi, f1.2.1 _ (by omega)]) a1 a2 a3
    | succ n ih =>
      intro t m1 ht f1 r1 t1
      unfold wb_X12_load_64 wp_X12_at
      rw [f1.2.2 4 (by decide), h4]
      refine ⟨fun z => absurd ((cmp_le (by omega) (by omega)).mp z) (by omega), fun _ => ?_⟩
      simp (disch := omega) only [nI_ofNat, pk_mul, nI_add, vp_nI, cl, l25, l30, l38, l39]
      refine ⟨by omega, by omega, ?_⟩
      intro m5 e5
      refine ⟨by omega, by omega, ?_⟩
      intro m10 e10 x11 h11
      have o10 : ∀ q, q ≠ 1025 → q ≠ 1030 → m10.1 q = m1.1 q := fun q a b => by subst e10 e5; rw [ct_st_ne b, ct_st_ne a]
      have s25 : m10.1 1025 = upd (m1.1 1025) t (m.1 1039 t) := by
        subst e10 e5
        rw [ct_st_ne (by decide), show 1023 + 2 = 1025 from rfl, ct_st_eq, f1.2.1 (1023 + 16) (by omega)]
      have s30 : m10.1 1030 = upd (m1.1 1030) (25 + 49 * t + 47) (b t) := by
        subst e10 e5
        rw [show 1023 + 7 = 1030 from rfl, ct_st_eq, ct_st_ne (by decide), ct_st_ne (by decide), f1.2.1 (1023 + 15) (by omega)]
        rw [show 1023 + 15 = 1038 from rfl, hb t (by omega)]
      rw [h11]
      refine ih (t + 1) m10 (by omega) (f1.tr ⟨by subst e10 e5; rfl, fun q hq => o10 q (by omega) (by omega), fun i _ => by rw [o10 _ (by decide) (by decide)]⟩) (fun i hi => ?_) (fun s hs => ?_)
      · rw [s30, rFresh_s (by omega)]
        simp only [upd]
        split
        · rfl
        · exact r1 i hi
      · rw [s25]
        by_cases e : s = t
        · subst e; exact upd_same _ _ _
        · rw [upd_ne _ _ e]; exact t1 s (by omega)
  exact ⟨T + 1, loop T 0 m (by omega) LFr.rf h30 (fun s hs => absurd hs (Nat.not_lt_zero s))⟩
theorem r_load27 {T : Nat} {a b : Nat → Int32} {Q : Int32 → ct_M → Prop} {m : ct_M} (hT : T ≤ 3) (h4 : m.1 1023 4 = nI T) (ha : ∀ c, c < 6 → m.1 1037 c = a c) (hb : ∀ t, t < T → m.1 1038 t = b t)
    (h : ∀ m', LFr m m' → (∀ i, i < 172 → m'.1 1030 i = rFresh T a b i) → (∀ t, t < T → m'.1 1025 t = m.1 1039 t) → (∀ k, k < 4 → ∀ i, i < 180 → m'.1 (1026 + k) i = m.1 (1040 + k) i) → m'.1 1023 13 = 0 → m'.1 1034 0 = 0 → m'.1 1034 1 = 0 → Q (nI T) m') : ∃ n, wb_X12_load_27 Q n 1023 (0 : Int32) m := by
  have l30 : ct_ln (1023 + 7) = 172 := by decide
  have l37 : ct_ln (1023 + 14) = 6 := by decide
  have loop : ∀ (n j : Nat) (m1 : ct_M), j + n = 172 → LFr m m1 → (∀ i, i < j → m1.1 1030 i = rFresh 0 a b i) → wb_X12_load_27 Q (n + 1) 1023 (nI j) m1 := by
    intro n
    induction n with
    | zero =>
      intro j m1 hj f1 r1
      have : j = 172 := by omega
      subst this
      unfold wb_X12_load_27
      refine ⟨fun _ => ?_, fun z => absurd ((cmp_le (a := 172) (by decide) (by decide)).mpr (Nat.le_refl _)) z⟩
      refine r_load64 hT (by rw [f1.2.2 4 (by decide)]; exact h4) r1 (fun t ht => by rw [f1.2.1 _ (by omega)]; exact hb t ht) (fun m2 f2 a1 a2 a3 a4 a5 a6 => h m2 (f1.tr f2) a1 (fun t ht => by rw [a2 t ht, f1.2.1 _ (by omega)]) (fun k hk i hi => by rw [a3 k hk i hi, f1.2.1 _ (by omega)]) a4 a5 a6)
    | succ n ih =>
      intro j m1 hj f1 r1
      have nx : ∀ y : Int32, y = rFresh 0 a b j → wb_X12_load_55 (wb_X12_load_27 Q (n + 1)) Q 1023 (nI j) y (nI j) (1023 + 7) m1 := by
        intro y hy
        unfold wb_X12_load_55
        rw [l30]
        refine ⟨(vp_nI (by omega)).mpr (by omega), ?_⟩
        intro m2 e2 x2 h2
        rw [cl (by omega)] at e2
        rw [h2, nI_ofNat 1, nI_add]
        refine ih (j + 1) m2 (by omega) (f1.tr (by subst e2; exact LFr.st (by decide) (by decide))) (fun i hi => ?_)
        subst e2
        rw [show 1023 + 7 = 1030 from rfl, ct_st_eq]
        by_cases e : i = j
        · subst e; rw [upd_same]; exact hy
        · rw [upd_ne _ _ e]; exact r1 i (by omega)
      unfold wb_X12_load_27
      refine ⟨fun z => absurd ((cmp_le (a := 172) (by decide) (by omega)).mp z) (by omega), fun _ => ⟨fun z => nx _ ?_, fun z => ?_⟩⟩
      · have := (cmp_le (a := 6) (by decide) (by omega)).mp z
        unfold rFresh
        rw [if_neg (by omega), if_neg (by omega), if_neg (by omega), if_neg (by omega)]
      · have hj6 : j < 6 := by
          refine Nat.lt_of_not_le fun y => z ((cmp_le (a := 6) (by decide) (by omega)).mpr y)
        rw [l37, cl (by omega)]
        refine ⟨(vp_nI (by omega)).mpr hj6, nx _ ?_⟩
        rw [f1.2.1 (1023 + 14) (by omega), show 1023 + 14 = 1037 from rfl, ha j hj6]
        unfold rFresh
        rw [if_pos hj6]
  exact ⟨173, loop 172 0 m (by omega) LFr.rf (fun i hi => absurd hi (Nat.not_lt_zero i))⟩
