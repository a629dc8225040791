/-! THE INVARIANT between two calls -/
def hrow (m : ct_M) (i : Nat) : Row := fun k => m.1 1032 (172 * i + k)
def srow (m : ct_M) (s : Nat) : Row := fun k => m.1 1033 (172 * s + k)
def IText (m : ct_M) : Prop := ∃ L : Nat, L ≤ 60 ∧ m.1 1 1 = nI L ∧ m.1 1023 2 = nI L ∧ ∀ k, k < L → ∃ x : Nat, x < 256 ∧ m.1 2 k = nI x ∧ m.1 1024 k = nI x
def IObs (m : ct_M) : Prop := ∃ O P : Nat, (O ≤ 4 ∧ (O < 4 → P = O)) ∧ P < 4 ∧ m.1 8 2 = nI O ∧ m.1 8 3 = nI P ∧ m.1 1023 16 = nI O ∧ ∀ i, i < O → (∃ c : Nat, c < 6 ∧ m.1 9 ((P + 4 - O + i) % 4) = nI c ∧ m.1 1035 i = nI c) ∧ V (m.1 1036 i) ∧ m.1 10 ((P + 4 - O + i) % 4) = m.1 1036 i
def IHist (G : Prg) (T : Nat) (N : Nat → Nat) (D : Nat → Nat → Nat) (B : Nat) (m : ct_M) : Prop := ∃ H P : Nat, H ≤ 14 ∧ P < 14 ∧ m.1 78 1 = nI H ∧ m.1 78 2 = nI P ∧ m.1 1023 13 = nI H ∧ ∀ i, i < H → RW G m (80 + 52 * ((P + 14 - H + i) % 14)) (hrow m i) T ∧ RWf G T N D B (hrow m i)
def ISlot (G : Prg) (T : Nat) (N : Nat → Nat) (D : Nat → Nat → Nat) (B : Nat) (m : ct_M) : Prop := ∀ s, s < 2 → (m.1 7 s = 0 ∧ m.1 1034 s = 0) ∨ (m.1 7 s = 1 ∧ m.1 1034 s = 1 ∧ RW G m (808 + 52 * s) (srow m s) T ∧ RWf G T N D B (srow m s))
def OkAll (m : ct_M) : Prop := ∀ b, ct_K 10 b → WOk m b
/-- the state proper, of programs G and T threads -/
def ICore (G : Prg) (T : Nat) (N : Nat → Nat) (D : Nat → Nat → Nat) (B : Nat) (m : ct_M) : Prop := 0 < T ∧ T ≤ 3 ∧ HasP G m ∧ m.1 1023 4 = nI T ∧ PSs G T N D ∧ (∀ s, s < T → PG G m (11 + 5 * s) s (N s)) ∧ RW G m 26 (m.1 1030) T ∧ RWf G T N D B (m.1 1030)
def INV (B : Nat) (m : ct_M) : Prop := OkAll m ∧ IText m ∧ IObs m ∧ ∃ (G : Prg) (T : Nat) (N : Nat → Nat) (D : Nat → Nat → Nat), ICore G T N D B m ∧ IHist G T N D B m ∧ ISlot G T N D B m
theorem RWf_TR {G : Prg} {T B : Nat} {N : Nat → Nat} {D : Nat → Nat → Nat} {v : Row} (hs : PSs G T N D) (h : RWf G T N D B v) : ∀ t, t < T → TR v t := fun t ht => TW_TR (hs t ht) (h.2.2.2.1 t ht)
theorem RW_mem {G : Prg} {m m' : ct_M} {b T : Nat} {v : Row} (h : RW G m b v T) (hT : T ≤ 3) (hr : ∀ t, t < T → TR v t) (hm : ∀ q, b ≤ q → q < b + 52 → m'.1 q = m.1 q) : RW G m' b v T := by
  obtain ⟨⟨h1, h2⟩, h3, h4, h7⟩ := h
  refine ⟨⟨fun c hc => ?_, fun c hc => ?_⟩, ?_, RWi_move h4 (by rw [hm b (by omega) (by omega)]) (fun q q1 q2 => hm q (by omega) (by omega)) (fun _ _ _ => rfl), fun t ht => ?_⟩
  · rw [hm _ (by omega) (by omega)]; exact h1 c hc
  · rw [hm _ (by omega) (by omega)]; exact h2 c hc
  · rw [hm _ (by omega) (by omega)]; exact h3
  · exact (h7 t ht).move (fun q q1 q2 => hm q (by omega) (by omega)) (fun _ _ _ => rfl) (hr t ht).2
theorem RW_row {G : Prg} {m : ct_M} {b T : Nat} {v v' : Row} (h : RW G m b v T) (hT : T ≤ 3) (hr : ∀ t, t < T → TR v t) (hv : ∀ i, i < 172 → v' i = v i) : RW G m b v' T := by
  obtain ⟨⟨h1, h2⟩, h3, h4, h7⟩ := h
  refine ⟨⟨fun c hc => ?_, fun c hc => ?_⟩, h3, RWi_move h4 rfl (fun _ _ _ => rfl) (fun i i1 i2 => hv i (by omega)), fun t ht => ?_⟩
  · rw [hv _ (by omega)]; exact h1 c hc
  · rw [hv _ (by omega)]; exact h2 c hc
  · exact (h7 t ht).move (fun _ _ _ => rfl) (fun i i1 i2 => hv i (by unfold rAt at i2; omega)) (hr t ht).2
theorem RWf_row {G : Prg} {T B : Nat} {N : Nat → Nat} {D : Nat → Nat → Nat} {v v' : Row} (hs : PSs G T N D) (hT : T ≤ 3) (h : RWf G T N D B v) (hv : ∀ i, i < 172 → v' i = v i) : RWf G T N D B v' := by
  obtain ⟨h1, h2, ⟨n, h3⟩, h4, h5⟩ := h
  refine ⟨fun c hc => by rw [hv _ (by omega)]; exact h1 c hc, fun c hc => by rw [hv _ (by omega)]; exact h2 c hc, ⟨n, rInvs_move h3 fun i i1 i2 => hv i (by omega)⟩, fun t ht => TW_move (hs t ht) (h4 t ht) fun j hj => hv _ (by unfold rAt; omega), fun u u1 u2 => (hv _ (by unfold rAt; omega)).trans (h5 u u1 u2)⟩
theorem K_ring {i : Nat} (h : i < 14) : ct_K 10 (80 + 52 * i) := (by decide +kernel : ∀ i, i < 14 → (80 + 52 * i < ct_NN ∧ ct_kd (80 + 52 * i) = 10)) i h
theorem K_slot {i : Nat} (h : i < 2) : ct_K 10 (808 + 52 * i) := (by decide +kernel : ∀ i, i < 2 → (808 + 52 * i < ct_NN ∧ ct_kd (808 + 52 * i) = 10)) i h
theorem K_26 : ct_K 10 26 := ⟨by decide +kernel, by decide +kernel⟩
theorem K_912 : ct_K 10 912 := ⟨by decide +kernel, by decide +kernel⟩
theorem K_971 : ct_K 10 971 := ⟨by decide +kernel, by decide +kernel⟩
theorem K10_bound {b : Nat} (h : ct_K 10 b) : 26 ≤ b ∧ b + 52 ≤ 1023 := by
  have h1 := ct_all (fun a => !(ct_kd a == 10) || (decide (26 ≤ a) && decide (a + 52 ≤ 1023))) (by decide +kernel) h.1
  simp only [h.2, beq_self_eq_true, Bool.not_true, Bool.false_or, Bool.and_eq_true, decide_eq_true_eq] at h1
  exact h1
/-- no two worlds meet -/
theorem K10_apart {b c : Nat} (h : ct_K 10 b) (h' : ct_K 10 c) : b = c ∨ b + 52 ≤ c ∨ c + 52 ≤ b := by
  have h1 := ct_all (fun a => !(ct_kd a == 10) || (a == 26 || (decide (80 ≤ a) && decide (a < 964) && (a - 80) % 52 == 0) || a == 971)) (by decide +kernel) h.1
  have h2 := ct_all (fun a => !(ct_kd a == 10) || (a == 26 || (decide (80 ≤ a) && decide (a < 964) && (a - 80) % 52 == 0) || a == 971)) (by decide +kernel) h'.1
  simp only [h.2, h'.2, beq_self_eq_true, Bool.not_true, Bool.false_or, Bool.and_eq_true, Bool.or_eq_true, decide_eq_true_eq, beq_iff_eq] at h1 h2
  omega
theorem OkAll.keep {m m' : ct_M} {b : Nat} (h : OkAll m) (hb : ct_K 10 b) (hf : Fr m m' b (b + 52)) : OkAll m' := by
  intro c hc
  rcases K10_apart hc hb with e | e
  · subst e; exact (h c hc).keep hf
  · intro t ht k hk
    rw [hf.2 _ (by omega)]
    exact h c hc t ht k hk
theorem OkAll.same {m m' : ct_M} (h : OkAll m) (hm : ∀ q, ct_kd q = 4 → m'.1 q = m.1 q) : OkAll m' := by
  intro c hc t ht k hk
  rw [hm]
  · exact h c hc t ht k hk
  · have h1 := ct_all (fun a => !(ct_kd a == 10) || ((List.range 3).all fun t => (List.range 3).all fun k => ct_kd (a + 7 + 15 * t + 6 + 3 * k) == 4)) (by decide +kernel) hc.1
    simp only [hc.2, beq_self_eq_true, Bool.not_true, Bool.false_or, beq_iff_eq, List.all_eq_true, List.mem_range] at h1
    exact h1 t ht k hk
/-- what a call may touch freely -/
def Idle (m m' : ct_M) : Prop := (∀ q, q < 912 → q ≠ 3 → q ≠ 4 → m'.1 q = m.1 q) ∧ (∀ j, (j = 2 ∨ j = 4 ∨ j = 13 ∨ j = 16) → m'.1 1023 j = m.1 1023 j) ∧ ∀ q, 1024 ≤ q → q ≤ 1036 → q ≠ 1031 → m'.1 q = m.1 q
theorem ICore_idle {G : Prg} {T B : Nat} {N : Nat → Nat} {D : Nat → Nat → Nat} {m m' : ct_M} (h : ICore G T N D B m) (hm : Idle m m') : ICore G T N D B m' := by
  obtain ⟨h1, h2, h3, h4, h5, h6, h7, h8⟩ := h
  obtain ⟨i1, i2, i3⟩ := hm
  have e : m'.1 1030 = m.1 1030 := i3 _ (by omega) (by omega) (by omega)
  refine ⟨h1, h2, fun k k1 k2 => by rw [i3 k (by omega) (by omega) (by omega)]; exact h3 k k1 k2, by rw [i2 4 (by omega)]; exact h4, h5, fun s hs => ?_, ?_, by rw [e]; exact h8⟩
  · obtain ⟨g1, g2⟩ := h6 s hs
    refine ⟨by rw [i1 _ (by omega) (by omega) (by omega)]; exact g1, fun k hk => ?_⟩
    rw [i1 _ (by omega) (by omega) (by omega), i1 _ (by omega) (by omega) (by omega), i1 _ (by omega) (by omega) (by omega)]
    exact g2 k hk
  · rw [e]; exact RW_mem h7 h2 (RWf_TR h5 h8) fun q q1 q2 => i1 q (by omega) (by omega) (by omega)
theorem INV_idle {B : Nat} {m m' : ct_M} (h : INV B m) (hm : Idle m m') (ho : OkAll m') : INV B m' := by
  obtain ⟨-, ⟨L, t1, t2, t3, t4⟩, ⟨O, P, o1, o2, o3, o4, o5, o6⟩, G, T, N, D, hc, ⟨H, R, g1, g2, g3, g4, g5, g6⟩, hsl⟩ := h
  obtain ⟨i1, i2, i3⟩ := id hm
  refine ⟨ho, ⟨L, t1, ?_, ?_, fun k hk => ?_⟩, ⟨O, P, o1, o2, ?_, ?_, ?_, fun i hi => ?_⟩, G, T, N, D, ICore_idle hc hm, ⟨H, R, g1, g2, ?_, ?_, ?_, fun i hi => ?_⟩, fun s hs => ?_⟩
  · rw [i1 _ (by omega) (by omega) (by omega)]; exact t2
  · rw [i2 2 (by omega)]; exact t3
  · rw [i1 _ (by omega) (by omega) (by omega), i3 _ (by omega) (by omega) (by omega)]; exact t4 k hk
  · rw [i1 _ (by omega) (by omega) (by omega)]; exact o3
  · rw [i1 _ (by omega) (by omega) (by omega)]; exact o4
  · rw [i2 16 (by omega)]; exact o5
  · rw [i1 9 (by omega) (by omega) (by omega), i1 10 (by omega) (by omega) (by omega), i3 1035 (by omega) (by omega) (by omega), i3 1036 (by omega) (by omega) (by omega)]; exact o6 i hi
  · rw [i1 _ (by omega) (by omega) (by omega)]; exact g3
  · rw [i1 _ (by omega) (by omega) (by omega)]; exact g4
  · rw [i2 13 (by omega)]; exact g5
  · have e : hrow m' i = hrow m i := by unfold hrow; rw [i3 1032 (by omega) (by omega) (by omega)]
    rw [e]
    exact ⟨RW_mem (g6 i hi).1 hc.2.1 (RWf_TR hc.2.2.2.2.1 (g6 i hi).2) (fun q q1 q2 => i1 q (by omega) (by omega) (by omega)), (g6 i hi).2⟩
  · have e : srow m' s = srow m s := by unfold srow; rw [i3 1033 (by omega) (by omega) (by omega)]
    rw [e, i1 7 (by omega) (by omega) (by omega), i3 1034 (by omega) (by omega) (by omega)]
    rcases hsl s hs with z | ⟨z1, z2, z3, z4⟩
    · exact Or.inl z
    · exact Or.inr ⟨z1, z2, RW_mem z3 hc.2.1 (RWf_TR hc.2.2.2.2.1 z4) (fun q q1 q2 => i1 q (by omega) (by omega) (by omega)), z4⟩
theorem INV.mono {B B' : Nat} {m : ct_M} (h : INV B m) (hB : B ≤ B') : INV B' m := by
  obtain ⟨h1, h2, h3, G, T, N, D, ⟨c1, c2, c3, c4, c5, c6, c7, c8⟩, ⟨H, R, g1, g2, g3, g4, g5, g6⟩, hsl⟩ := h
  refine ⟨h1, h2, h3, G, T, N, D, ⟨c1, c2, c3, c4, c5, c6, c7, c8.mono hB⟩, ⟨H, R, g1, g2, g3, g4, g5, fun i hi => ⟨(g6 i hi).1, (g6 i hi).2.mono hB⟩⟩, fun s hs => ?_⟩
  rcases hsl s hs with z | ⟨z1, z2, z3, z4⟩
  · exact Or.inl z
  · exact Or.inr ⟨z1, z2, z3, z4.mono hB⟩
theorem Idle_0 {m : ct_M} (x : Int32) : Idle m (ct_st m 1023 0 x) := by
  refine ⟨fun q h1 h2 h3 => ct_st_ne (by omega), fun j hj => ?_, fun q h1 h2 h3 => ct_st_ne (by omega)⟩
  rw [ct_st_eq, upd_ne _ _ (by omega)]
theorem INV_0 {B : Nat} {m : ct_M} (h : INV B m) (x : Int32) : INV B (ct_st m 1023 0 x) :=
  INV_idle h (Idle_0 x) (h.1.same fun q hq => ct_st_ne (by
    intro e
    subst e
    exact absurd hq (by decide +kernel)))
