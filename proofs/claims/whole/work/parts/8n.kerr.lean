theorem OkAll.near {m m' : ct_M} (h : OkAll m) (hm : ∀ q, 26 ≤ q → q < 1023 → m'.1 q = m.1 q) : OkAll m' := by
  intro b hb t ht k hk
  have := K10_bound hb
  rw [hm _ (by omega) (by omega)]
  exact h b hb t ht k hk
/-- the text, as both sides hold it -/
theorem text_of {m : ct_M} (h : IText m) : ∃ (L : Nat) (x : Nat → Nat), L ≤ 60 ∧ m.1 1 1 = nI L ∧ (∀ k, k < L → x k < 256 ∧ m.1 2 k = nI (x k)) ∧ RTx L x m := by
  obtain ⟨L, t1, t2, t3, t4⟩ := h
  have e : ∀ k, k < L → (m.1 2 k).toNatClampNeg < 256 ∧ m.1 2 k = nI (m.1 2 k).toNatClampNeg ∧ m.1 1024 k = nI (m.1 2 k).toNatClampNeg := by
    intro k hk
    obtain ⟨y, y1, y2, y3⟩ := t4 k hk
    have : (m.1 2 k).toNatClampNeg = y := by rw [y2, cl (by omega)]
    rw [this]; exact ⟨y1, y2, y3⟩
  exact ⟨L, fun k => (m.1 2 k).toNatClampNeg, t1, t2, fun k hk => ⟨(e k hk).1, (e k hk).2.1⟩, t3, fun k hk => ⟨(e k hk).1, (e k hk).2.2⟩⟩
theorem RTx.far {L : Nat} {x : Nat → Nat} {m m' : ct_M} (h : RTx L x m) (h1 : m'.1 1023 2 = m.1 1023 2) (h2 : m'.1 1024 = m.1 1024) : RTx L x m' := ⟨by rw [h1]; exact h.1, fun k hk => by rw [h2]; exact h.2 k hk⟩
theorem k_errorPosition {B : Nat} {K : ct_M → Prop} {m : ct_M} (h : INV B m) (hB : B < 2 ^ 28) (hK : ∀ m', INV (B + 400) m' → K m') : wp_X11_errorPosition 0 (fun r m1 => wp_X12_errorPosition 1023 (Same K r) m1) m := by
  obtain ⟨L, x, hL, hc, hx, hr⟩ := text_of h.2.1
  unfold wp_X11_errorPosition
  refine c_firstError hL hc hx (fun m1 f1 => ?_)
  refine r_err hL (hr.far (by rw [f1.2 _ (by decide) (by decide)]) (f1.2 _ (by decide) (by decide))) (fun m2 f2 _ => Same.mk (hK m2 ((INV_idle h ⟨fun q q1 q2 q3 => ?_, fun j hj => ?_, fun q q1 q2 q3 => ?_⟩ (h.1.near fun q q1 q2 => ?_)).mono (by omega))))
  · rw [f2.2.1 q (by omega), f1.2 q q2 q3]
  · rw [f2.2.2 j (by omega) (by omega) (by omega) (by omega), f1.2 _ (by decide) (by decide)]
  · rw [f2.2.1 q (by omega), f1.2 q (by omega) (by omega)]
  · rw [f2.2.1 q (by omega), f1.2 q (by omega) (by omega)]
