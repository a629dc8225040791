/-! runScript: one command -/
noncomputable def fSteps (G : Prg) (T t : Nat) : Nat → Row → Int32 → Int32 × Row × Int32
  | 0, v, w => (1, v, w)
  | n + 1, v, w => cif (v (rAt t) = 0) (fSteps G T t n (fStep G T v t w).2.1 (fStep G T v t w).2.2) (0, v, w)
theorem fSteps_wf {G : Prg} {T t : Nat} {N : Nat → Nat} {D : Nat → Nat → Nat} (hs : PSs G T N D) (ht : t < T) : ∀ (n B : Nat) (v : Row) (w : Int32), B + 6 * n < 2 ^ 29 → RWf G T N D B v → RWf G T N D (B + 6 * n) (fSteps G T t n v w).2.1 := by
  intro n
  induction n with
  | zero => intro B v w hB h; exact h
  | succ n ih =>
    intro B v w hB h
    unfold fSteps
    by_cases c : v (rAt t) = 0
    · rw [cif_t c]
      exact (ih (B + 6) _ _ (by omega) (step_wf hs ht h (by omega) c)).mono (by omega)
    · rw [cif_f c]; exact h.mono (by omega)
theorem PG_fr {G : Prg} {T b : Nat} {N : Nat → Nat} {m m' : ct_M} (hT : T ≤ 3) (hb : 26 ≤ b) (hP : ∀ s, s < T → PG G m (11 + 5 * s) s (N s)) (hm : ∀ q, q < b → m'.1 q = m.1 q) : ∀ s, s < T → PG G m' (11 + 5 * s) s (N s) := fun s hs => by
  obtain ⟨g1, g2⟩ := hP s hs
  refine ⟨by rw [hm _ (by omega)]; exact g1, fun k hk => ?_⟩
  rw [hm (11 + 5 * s + 1) (by omega), hm (11 + 5 * s + 2) (by omega), hm (11 + 5 * s + 3) (by omega)]
  exact g2 k hk
theorem c_steps {G : Prg} {T t : Nat} {N : Nat → Nat} {D : Nat → Nat → Nat} {Q : Int32 → ct_M → Prop} (hT : T ≤ 3) (ht : t < T) (hs : PSs G T N D) (d : Nat) (hd : d < 2 ^ 20) : ∀ (n j B : Nat) (v : Row) (w : Int32) (m : ct_M), j + n = d → B + 6 * n < 2 ^ 29 → (∀ s, s < T → PG G m (11 + 5 * s) s (N s)) → RW G m 912 v T → RWf G T N D B v → (∀ m', Fr m m' 912 (912 + 52) → RW G m' 912 (fSteps G T t n v w).2.1 T → Q (fSteps G T t n v w).1 m') → wb_X11_stepsThrough_2 Q (n + 1) 0 (912 + 7 + 15 * t) (nI d) (nI j) m := by
  intro n
  induction n with
  | zero =>
    intro j B v w m hj hB hP hw hf hq
    unfold wb_X11_stepsThrough_2
    exact ⟨fun _ => hq m Fr.rfl' hw, fun e => absurd ((cmp_le (by omega) (by omega)).mpr (by omega)) e⟩
  | succ n ih =>
    intro j B v w m hj hB hP hw hf hq
    have e1 : m.1 (912 + 7 + 15 * t) 1 = v (rAt t) := (hw.2.2.2 t ht).1.1
    unfold wb_X11_stepsThrough_2
    rw [e1]
    refine ⟨fun e => absurd ((cmp_le (by omega) (by omega)).mp e) (by omega), fun _ => ⟨fun c => ?_, fun c => ?_⟩⟩
    · have e : fSteps G T t (n + 1) v w = fSteps G T t n (fStep G T v t w).2.1 (fStep G T v t w).2.2 := cif_t c
      rw [e] at hq
      rw [show 0 + 912 = 912 from rfl]
      refine c_advance (b := 912) (ww := w) K_912 (by omega) hT ht hs hP hw hf (by omega) c (fun m1 f1 rw1 => ?_)
      intro x hx
      rw [hx, nI_ofNat 1, nI_add]
      exact ih (j + 1) (B + 6) _ (fStep G T v t w).2.2 m1 (by omega) (by omega) (PG_fr (b := 912) hT (by omega) hP fun q hq => f1.2 q (by omega)) rw1 (step_wf hs ht hf (by omega) c) (fun m2 f2 rw2 => hq m2 (f1.tr f2) rw2)
    · have e : fSteps G T t (n + 1) v w = (0, v, w) := cif_f c
      rw [e] at hq
      exact hq m Fr.rfl' hw
def refC (m : ct_M) (w : Int32) (v : Row) : ct_M := pr (ct_st m 1023 29 w) 1031 v
theorem refC_refC {m : ct_M} {w w' : Int32} {v v' : Row} : pr (ct_st (refC m w v) 1023 29 w') 1031 v' = refC m w' v' := by
  unfold refC
  rw [pr_st, pr_ne _ _ (by decide), pr_st, pr_at, pr_comm _ _ _ (by decide : (1031 : Nat) ≠ 1023), pr_pr, pr_pr, pr_st]
  congr 2
  funext i
  simp only [upd]
  split <;> rfl
theorem refC_ne {m : ct_M} {w : Int32} {v : Row} {q : Nat} (h : q ≠ 1023) (h2 : q ≠ 1031) : (refC m w v).1 q = m.1 q := by
  unfold refC; rw [pr_ne _ _ h2, ct_st_ne h]
theorem refC_31 {m : ct_M} {w : Int32} {v : Row} : (refC m w v).1 1031 = v := pr_at _ _ _
theorem refC_23 {m : ct_M} {w : Int32} {v : Row} {j : Nat} (h : j ≠ 29) : (refC m w v).1 1023 j = m.1 1023 j := by
  unfold refC; rw [pr_ne _ _ (by decide), ct_st_eq, upd_ne _ _ h]
theorem refC_w {m : ct_M} {w : Int32} {v : Row} : (refC m w v).1 1023 29 = w := by
  unfold refC; rw [pr_ne _ _ (by decide), ct_st_eq, upd_same]
theorem ln1031 : ct_ln (1023 + 8) = 172 := by decide
theorem r_steps {G : Prg} {T t : Nat} {N : Nat → Nat} {D : Nat → Nat → Nat} {Q : Int32 → ct_M → Prop} {m : ct_M} (hT : T ≤ 3) (ht : t < T) (hs : PSs G T N D) (hG : HasP G m) (hth : m.1 1023 4 = nI T) (d : Nat) (hd : d < 2 ^ 20) : ∀ (n j B : Nat) (v : Row) (w : Int32), j + n = d → B + 6 * n < 2 ^ 29 → RWf G T N D B v → Q (fSteps G T t n v w).1 (refC m (fSteps G T t n v w).2.2 (fSteps G T t n v w).2.1) → wb_X12_command_83 Q (n + 2) 1023 (nI t) (nI d) (1 : Int32) (nI j) (refC m w v) := by
  intro n
  induction n with
  | zero =>
    intro j B v w hj hB hf hq
    unfold wb_X12_command_83
    exact ⟨fun _ => ⟨okZ1, hq⟩, fun e => absurd ((cmp_le (by omega) (by omega)).mpr (by omega)) e⟩
  | succ n ih =>
    intro j B v w hj hB hf hq
    unfold wb_X12_command_83
    refine ⟨fun e => absurd ((cmp_le (by omega) (by omega)).mp e) (by omega), fun _ => ⟨fun e => absurd e (by decide), fun _ => r_at' ?_⟩⟩
    have e1 : (refC m w v).1 (1023 + 8) (25 + 49 * t + 0) = v (rAt t) := congrFun refC_31 _
    simp (disch := omega) only [nI_ofNat 0, nI_add, vp_nI, cl, ln1031, e1]
    refine ⟨by omega, fun c => ?_, fun c => ?_⟩
    · have e : fSteps G T t (n + 1) v w = (0, v, w) := cif_f c
      rw [e] at hq
      unfold wb_X12_command_113
      refine ⟨fun _ => ?_, fun z => absurd rfl z⟩
      unfold wb_X12_command_130
      intro x hx
      unfold wb_X12_command_83
      exact ⟨fun _ => ⟨okZ0, hq⟩, fun _ => ⟨fun _ => ⟨okZ0, hq⟩, fun z => absurd rfl z⟩⟩
    · have e : fSteps G T t (n + 1) v w = fSteps G T t n (fStep G T v t w).2.1 (fStep G T v t w).2.2 := cif_t c
      rw [e] at hq
      unfold wb_X12_command_113
      refine ⟨fun z => absurd z (by decide), fun _ => ?_⟩
      refine r_step (A := 1031) (G := G) (T := T) (B := B) (N := N) (D := D) (by decide) (by decide) (fun k k1 k2 => by rw [refC_ne (by omega) (by omega)]; exact hG k k1 k2) hT (by rw [refC_23 (by decide)]; exact hth) hs ht (by rw [refC_31]; exact hf) (by omega) (by rw [refC_31]; exact c) ?_
      rw [refC_31, refC_w, refC_refC]
      unfold wb_X12_command_130
      intro x hx
      rw [hx, nI_ofNat 1, nI_add]
      exact ih (j + 1) (B + 6) _ _ (by omega) (by omega) (step_wf hs ht hf (by omega) c) hq
/-- a command: whether it succeeds, row and written bits -/
noncomputable def fCmd (G : Prg) (T : Nat) (v : Row) (w d1 d2 d3 : Int32) : Int32 × Row × Int32 :=
  cif (d1 = 1) (cif ((∃ t : Nat, t < T ∧ d2 = nI t) ∧ ¬ d3 ≤ 0) (fSteps G T d2.toNatClampNeg d3.toNatClampNeg v w) (0, v, w))
    (cif ((d1 = 2 ∧ ∃ t : Nat, t < T ∧ d2 = nI t ∧ v (rAt t) = d3) ∨ (d1 = 3 ∧ ∃ c : Nat, c < 6 ∧ d2 = nI c ∧ v c = d3) ∨ (d1 = 4 ∧ ∃ c : Nat, c < 6 ∧ d2 = nI c ∧ v (6 + c) = d3) ∨ (d1 = 5 ∧ ∃ t : Nat, t < T ∧ d2 = nI t ∧ v (rAt t + 48) = d3)) (1, v, w) (0, v, w))
theorem d3_cls {d3 : Int32} (h9 : d3.toInt ≤ 9) (h : ¬ d3 ≤ 0) : ∃ d : Nat, d ≤ 9 ∧ 0 < d ∧ d3 = nI d := by
  have h2 : ¬ d3.toInt ≤ 0 := fun z => h (Int32.le_iff_toInt_le.mpr z)
  obtain ⟨n, hn, e, e2⟩ := i32_nI (p := d3) (by omega)
  exact ⟨n, by omega, by omega, e⟩
theorem fCmd_wf {G : Prg} {T B : Nat} {N : Nat → Nat} {D : Nat → Nat → Nat} {v : Row} {w d1 d2 d3 : Int32} (hs : PSs G T N D) (hT : T ≤ 3) (h9 : d3.toInt ≤ 9) (hB : B + 54 < 2 ^ 29) (h : RWf G T N D B v) : RWf G T N D (B + 54) (fCmd G T v w d1 d2 d3).2.1 := by
  unfold fCmd
  by_cases c1 : d1 = 1
  · rw [cif_t c1]
    by_cases c2 : (∃ t : Nat, t < T ∧ d2 = nI t) ∧ ¬ d3 ≤ 0
    · rw [cif_t c2]
      obtain ⟨⟨t, ht, e⟩, c3⟩ := c2
      obtain ⟨d, hd, hd0, ed⟩ := d3_cls h9 c3
      rw [e, ed, cl (by omega), cl (by omega)]
      exact (fSteps_wf hs ht d B v w (by omega) h).mono (by omega)
    · rw [cif_f c2]; exact h.mono (by omega)
  · rw [cif_f c1]
    by_cases c2 : (d1 = 2 ∧ ∃ t : Nat, t < T ∧ d2 = nI t ∧ v (rAt t) = d3) ∨ (d1 = 3 ∧ ∃ c : Nat, c < 6 ∧ d2 = nI c ∧ v c = d3) ∨ (d1 = 4 ∧ ∃ c : Nat, c < 6 ∧ d2 = nI c ∧ v (6 + c) = d3) ∨ (d1 = 5 ∧ ∃ t : Nat, t < T ∧ d2 = nI t ∧ v (rAt t + 48) = d3)
    · rw [cif_t c2]; exact h.mono (by omega)
    · rw [cif_f c2]; exact h.mono (by omega)
theorem nI_inj {a b : Nat} (ha : a < 2 ^ 31) (hb : b < 2 ^ 31) (h : nI a = nI b) : a = b := (cmp_eq ha hb).mp h
theorem c_cmd {G : Prg} {T B : Nat} {N : Nat → Nat} {D : Nat → Nat → Nat} {v : Row} {w d1 d2 d3 : Int32} {Q : Int32 → ct_M → Prop} {m : ct_M} (hT : T ≤ 3) (hs : PSs G T N D) (h9 : d3.toInt ≤ 9) (hB : B + 54 < 2 ^ 29) (hP : ∀ s, s < T → PG G m (11 + 5 * s) s (N s)) (hw : RW G m 912 v T) (h : RWf G T N D B v)
    (hq : ∀ m', Fr m m' 912 (912 + 52) → RW G m' 912 (fCmd G T v w d1 d2 d3).2.1 T → Q (fCmd G T v w d1 d2 d3).1 m') : wp_X11_commandSucceeds 0 d1 d2 d3 Q m := by
  obtain ⟨l1, l2, l3, -⟩ := w_len K_912
  have no : ∀ z : Int32, fCmd G T v w d1 d2 d3 = (z, v, w) → Q z m := fun z e => by rw [e] at hq; exact hq m Fr.rfl' hw
  unfold wp_X11_commandSucceeds
  rw [show 0 + 912 = 912 from rfl]
  refine ⟨fun c1 => ?_, fun c1 => ⟨fun c2 => ?_, fun c2 => ⟨fun c3 => ?_, fun c3 => ⟨fun c4 => ?_, fun c4 => ⟨fun c5 => ?_, fun c5 => ?_⟩⟩⟩⟩⟩
  · refine c_hasThread hT hw.2.1 (fun t ht e => ⟨fun z => absurd z (by decide), fun _ => ⟨fun z => ?_, fun z => ?_⟩⟩) (fun e => ⟨fun _ => ?_, fun z => absurd rfl z⟩)
    · refine no 0 ?_
      unfold fCmd; rw [cif_t c1, cif_f (fun y => y.2 z)]
    · obtain ⟨d, hd, hd0, ed⟩ := d3_cls h9 z
      have ef : fCmd G T v w d1 d2 d3 = fSteps G T t d v w := by
        unfold fCmd; rw [cif_t c1, cif_t ⟨⟨t, ht, e⟩, z⟩, e, ed, cl (by omega), cl (by omega)]
      rw [ef] at hq
      rw [e, ed]
      simp (disch := omega) only [vp_nI, cl, l3]
      refine ⟨by omega, ?_⟩
      unfold wp_X11_stepsThrough
      refine ⟨d + 1, c_steps hT ht hs d (by omega) d 0 B v w m (by omega) (by omega) hP hw h (fun m1 f1 rw1 => ?_)⟩
      have hqq := hq m1 f1 rw1
      have b01 : ∀ n v w, (fSteps G T t n v w).1 = 0 ∨ (fSteps G T t n v w).1 = 1 := by
        intro n
        induction n with
        | zero => intro v w; exact Or.inr rfl
        | succ n ih =>
          intro v w
          unfold fSteps
          by_cases c : v (rAt t) = 0
          · rw [cif_t c]; exact ih _ _
          · rw [cif_f c]; exact Or.inl rfl
      rcases b01 d v w with y | y
      · rw [y] at hqq ⊢; exact ⟨fun _ => hqq, fun z => absurd rfl z⟩
      · rw [y] at hqq ⊢; exact ⟨fun z => absurd z (by decide), fun _ => hqq⟩
    · refine no 0 ?_
      unfold fCmd; rw [cif_t c1, cif_f (fun y => by obtain ⟨⟨t, ht, z⟩, -⟩ := y; exact e t ht z)]
  · refine c_hasThread hT hw.2.1 (fun t ht e => ⟨fun z => absurd z (by decide), fun _ => ?_⟩) (fun e => ⟨fun _ => ?_, fun z => absurd rfl z⟩)
    · have e1 : m.1 (912 + 3 + 4 + 15 * t) 1 = v (rAt t) := (hw.2.2.2 t ht).1.1
      rw [e]
      simp (disch := omega) only [vp_nI, cl, l3, e1]
      refine ⟨by omega, fun z => no 0 ?_, fun z => no 1 ?_⟩
      · unfold fCmd; rw [cif_f c1, cif_f]
        rintro (⟨-, t', ht', y1, y2⟩ | y | y | y)
        · have : t' = t := nI_inj (by omega) (by omega) (y1.symm.trans e)
          subst this; exact z y2
        · rw [c2] at y; exact absurd y.1 (by decide)
        · rw [c2] at y; exact absurd y.1 (by decide)
        · rw [c2] at y; exact absurd y.1 (by decide)
      · unfold fCmd; rw [cif_f c1, cif_t (Or.inl ⟨c2, t, ht, e, z⟩)]
    · refine no 0 ?_
      unfold fCmd; rw [cif_f c1, cif_f]
      rintro (⟨-, t', ht', y1, y2⟩ | y | y | y)
      · exact e t' ht' y1
      · rw [c2] at y; exact absurd y.1 (by decide)
      · rw [c2] at y; exact absurd y.1 (by decide)
      · rw [c2] at y; exact absurd y.1 (by decide)
  · refine c_isCell' (fun c hc e => ⟨fun z => absurd z (by decide), fun _ => ?_⟩) (fun e => ⟨fun _ => ?_, fun z => absurd rfl z⟩)
    · rw [e]
      simp (disch := omega) only [vp_nI, cl, l1, hw.1.1 c hc]
      refine ⟨by omega, fun z => no 0 ?_, fun z => no 1 ?_⟩
      · unfold fCmd; rw [cif_f c1, cif_f]
        rintro (y | ⟨-, t', ht', y1, y2⟩ | y | y)
        · rw [c3] at y; exact absurd y.1 (by decide)
        · have : t' = c := nI_inj (by omega) (by omega) (y1.symm.trans e)
          subst this; exact z y2
        · rw [c3] at y; exact absurd y.1 (by decide)
        · rw [c3] at y; exact absurd y.1 (by decide)
      · unfold fCmd; rw [cif_f c1, cif_t (Or.inr (Or.inl ⟨c3, c, hc, e, z⟩))]
    · refine no 0 ?_
      unfold fCmd; rw [cif_f c1, cif_f]
      rintro (y | ⟨-, t', ht', y1, y2⟩ | y | y)
      · rw [c3] at y; exact absurd y.1 (by decide)
      · exact e t' ht' y1
      · rw [c3] at y; exact absurd y.1 (by decide)
      · rw [c3] at y; exact absurd y.1 (by decide)
  · refine c_isCell' (fun c hc e => ⟨fun z => absurd z (by decide), fun _ => ?_⟩) (fun e => ⟨fun _ => ?_, fun z => absurd rfl z⟩)
    · rw [e]
      simp (disch := omega) only [vp_nI, cl, l2, hw.1.2 c hc]
      refine ⟨by omega, fun z => no 0 ?_, fun z => no 1 ?_⟩
      · unfold fCmd; rw [cif_f c1, cif_f]
        rintro (y | y | ⟨-, t', ht', y1, y2⟩ | y)
        · rw [c4] at y; exact absurd y.1 (by decide)
        · rw [c4] at y; exact absurd y.1 (by decide)
        · have : t' = c := nI_inj (by omega) (by omega) (y1.symm.trans e)
          subst this; exact z y2
        · rw [c4] at y; exact absurd y.1 (by decide)
      · unfold fCmd; rw [cif_f c1, cif_t (Or.inr (Or.inr (Or.inl ⟨c4, c, hc, e, z⟩)))]
    · refine no 0 ?_
      unfold fCmd; rw [cif_f c1, cif_f]
      rintro (y | y | ⟨-, t', ht', y1, y2⟩ | y)
      · rw [c4] at y; exact absurd y.1 (by decide)
      · rw [c4] at y; exact absurd y.1 (by decide)
      · exact e t' ht' y1
      · rw [c4] at y; exact absurd y.1 (by decide)
  · refine c_hasThread hT hw.2.1 (fun t ht e => ⟨fun z => absurd z (by decide), fun _ => ?_⟩) (fun e => ⟨fun _ => ?_, fun z => absurd rfl z⟩)
    · have e1 : m.1 (912 + 3 + 4 + 15 * t) 3 = v (rAt t + 48) := (hw.2.2.2 t ht).1.2.2.1
      rw [e]
      simp (disch := omega) only [vp_nI, cl, l3, e1]
      refine ⟨by omega, fun z => no 0 ?_, fun z => no 1 ?_⟩
      · unfold fCmd; rw [cif_f c1, cif_f]
        rintro (y | y | y | ⟨-, t', ht', y1, y2⟩)
        · rw [c5] at y; exact absurd y.1 (by decide)
        · rw [c5] at y; exact absurd y.1 (by decide)
        · rw [c5] at y; exact absurd y.1 (by decide)
        · have : t' = t := nI_inj (by omega) (by omega) (y1.symm.trans e)
          subst this; exact z y2
      · unfold fCmd; rw [cif_f c1, cif_t (Or.inr (Or.inr (Or.inr ⟨c5, t, ht, e, z⟩)))]
    · refine no 0 ?_
      unfold fCmd; rw [cif_f c1, cif_f]
      rintro (y | y | y | ⟨-, t', ht', y1, y2⟩)
      · rw [c5] at y; exact absurd y.1 (by decide)
      · rw [c5] at y; exact absurd y.1 (by decide)
      · rw [c5] at y; exact absurd y.1 (by decide)
      · exact e t' ht' y1
  · refine no 0 ?_
    unfold fCmd; rw [cif_f c1, cif_f]
    rintro (y | y | y | y)
    · exact c2 y.1
    · exact c3 y.1
    · exact c4 y.1
    · exact c5 y.1
