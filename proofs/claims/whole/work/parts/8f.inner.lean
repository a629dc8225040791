/-- whether a sign closes, or parts, the innermost bracket -/
def rInner (m : ct_M) (t d q : Nat) (c : Int32) : Prop := 0 < d ∧ ((c = 125 ∧ m.1 1040 (60 * t + q) = 123) ∨ (¬ c = 125 ∧ m.1 1040 (60 * t + q) = 40 ∧ (m.1 1042 (60 * t + q) = -9 ↔ c = 124)))
theorem r_isInner {t d q : Nat} {c : Int32} {Q : Int32 → ct_M → Prop} {m : ct_M} (ht : t < 3) (hd : d ≤ 3) (hq : q < 60) (h19 : m.1 1023 19 = nI t) (h28 : m.1 1023 28 = nI d) (h44 : 0 < d → m.1 1044 (d - 1) = nI q) (h1 : rInner m t d q c → Q 1 m) (h0 : ¬ rInner m t d q c → Q 0 m) : wp_X12_isInner 1023 c Q m := by
  have l44 : ct_ln (1023 + 21) = 3 := by decide
  have l40 : ct_ln (1023 + 17) = 180 := by decide
  have l42 : ct_ln (1023 + 19) = 180 := by decide
  unfold wp_X12_isInner
  rw [h28, h19]
  refine ⟨fun z => ?_, fun z => h0 fun w => ?_⟩
  · have hd0 : 0 < d := by
      refine Nat.pos_of_ne_zero fun w => z ?_
      rw [w]; rfl
    have e1 : nI d - 1 = nI (d - 1) := by
      have := nI_pred (d - 1)
      rw [show d - 1 + 1 = d by omega] at this
      exact this
    rw [e1]
    simp (disch := omega) only [vp_nI, cl, l44]
    rw [show m.1 (1023 + 21) (d - 1) = nI q from h44 hd0]
    refine ⟨by omega, ?_⟩
    intro x3 hx3
    have ex : x3 = nI (60 * t + q) := by rw [hx3, nI_ofNat 60, pk_mul, nI_add]
    rw [ex]
    simp (disch := omega) only [vp_nI, cl, l40, l42, show 1023 + 17 = 1040 from rfl, show 1023 + 19 = 1042 from rfl]
    refine ⟨fun c1 => ⟨by omega, fun c2 => h0 fun w => ?_, fun c2 => ⟨by omega, fun c3 => ?_, fun c3 => ?_⟩⟩, fun c1 => ⟨by omega, fun c2 => h0 fun w => ?_, fun c2 => h1 ⟨hd0, Or.inl ⟨c1, c2⟩⟩⟩⟩
    · rcases w.2 with y | y
      · exact c1 y.1
      · exact c2 y.2.1
    · unfold wb_X12_isInner_81 wb_X12_isInner_92
      refine ⟨fun c4 => ⟨fun w => absurd rfl w, fun _ => h1 ⟨hd0, Or.inr ⟨c1, c2, fun y => absurd y c3, fun y => absurd y c4⟩⟩⟩, fun c4 => ⟨fun _ => h0 fun w => ?_, fun w => absurd w (by decide)⟩⟩
      rcases w.2 with y | y
      · exact c1 y.1
      · exact c3 (y.2.2.mpr c4)
    · unfold wb_X12_isInner_81 wb_X12_isInner_92
      refine ⟨fun c4 => ⟨fun _ => h0 fun w => ?_, fun w => absurd w (by decide)⟩, fun c4 => ⟨fun w => absurd rfl w, fun _ => h1 ⟨hd0, Or.inr ⟨c1, c2, fun _ => c4, fun _ => c3⟩⟩⟩⟩
      rcases w.2 with y | y
      · exact c1 y.1
      · exact c4 (y.2.2.mp c3)
    · rcases w.2 with y | y
      · exact c2 y.2
      · exact y.1 c1
  · have : d = 0 := (cmp_eq (b := 0) (by omega) (by decide)).mp z
    have := w.1
    omega
