/-! the class explores -/
theorem kC_inj {z : Nat → Bool} {p p' : Pnt} (h : VP p.1) (h' : VP p'.1) (hq : p.2 < 4096) (hq' : p'.2 < 4096) (hz : ∀ t, t < 3 → z t = true → sT p.2 t / 4 = sT p'.2 t / 4) (e : kC z p = kC z p') : p = p' := by
  unfold kC at e
  have l1 := cc_lt (z := z) h.1 (fun u (_ : u < 3) => sT_lt p.2 u)
  have l2 := cc_lt (z := z) h'.1 (fun u (_ : u < 3) => sT_lt p'.2 u)
  have e2 := (lN_inj (by omega) (by omega)).mp e
  obtain ⟨a, b⟩ := cc_inj h.1 h'.1 (fun u _ => sT_lt p.2 u) (fun u _ => sT_lt p'.2 u) hz e2
  exact Prod.ext a (q_ext hq hq' b)
theorem KFr.rf {b : Nat} {m : ct_M} : KFr b m m := ⟨fun _ _ _ => rfl, fun _ _ => rfl⟩
theorem kAdd_comp {z : Nat → Bool} {E : EX} {p : Pnt} : kAdd (fun i => kC z (E.1 i)) E.2 (kC z p) = fun i => kC z (kAdd E.1 E.2 p i) := by
  funext i
  unfold kAdd
  split <;> rfl
theorem c_addE {b : Nat} {z : Nat → Bool} {E : EX} {p : Pnt} {Q : ct_M → Prop} {m : ct_M} (hb : b = 965 ∨ b = 968) (hK : KSet m b E.2 (fun i => kC z (E.1 i))) (hi : ∀ k, k < E.2 → kC z (E.1 k) = kC z p → E.1 k = p) (hf : (¬ ∃ k, k < E.2 ∧ E.1 k = p) → E.2 < 1359) (h : ∀ m', KFr b m m' → KSet m' b (addE E p).2 (fun i => kC z ((addE E p).1 i)) → Q m') : wp_X2_add b (kC z p) Q m := by
  refine c_addKey hb hK (fun k hk e => ?_) (fun hn => ?_)
  · have := hi k hk e
    refine h m KFr.rf ?_
    rw [addE_in ⟨k, hk, this⟩]; exact hK
  · have hno : ¬ ∃ k, k < E.2 ∧ E.1 k = p := fun ⟨k, hk, e⟩ => hn k hk (by rw [e])
    refine ⟨hf hno, fun m' f g => h m' f ?_⟩
    rw [addE_out hno]
    rw [kAdd_comp] at g
    exact g
theorem CW_keys {G : Prg} {T b : Nat} {N : Nat → Nat} {D : Nat → Nat → Nat} {v0 : Row} {m0 m m' : ct_M} (hT : T ≤ 3) (hs : PSs G T N D) (hb : b = 965 ∨ b = 968) (h : CW G T N D v0 m0 m) (f : KFr b m m') : CW G T N D v0 m0 m' := by
  obtain ⟨⟨v, B, h1, h2, h3⟩, h4, h5, h6⟩ := h
  refine ⟨⟨v, B, RW_mem h1 hT (RWf_TR hs h2) (fun q q1 q2 => f.1 q (by omega) (by omega)), h2, h3⟩, h4.same (fun q hq => f.1 q ?_ ?_), fun q hq => (f.1 q (by omega) (by omega)).trans (h5 q hq), fun q q1 q2 => (f.2 q (by omega)).trans (h6 q q1 q2)⟩
  · intro e
    rcases hb with y | y <;> subst y <;> subst e <;> exact absurd hq (by decide +kernel)
  · intro e
    rcases hb with y | y <;> subst y <;> subst e <;> exact absurd hq (by decide +kernel)
theorem KSet_keep {b n : Nat} {key : Nat → Int64} {m m' : ct_M} (h : KSet m b n key) (h1 : m'.1 b = m.1 b) (h2 : m'.2 (b + 1) = m.2 (b + 1)) (h3 : m'.1 (b + 2) = m.1 (b + 2)) : KSet m' b n key := by
  obtain ⟨a1, a2, a3, a4⟩ := h
  exact ⟨a1, by rw [h1]; exact a2, fun k hk => by rw [h2]; exact a3 k hk, by rw [h3]; exact a4⟩
def CXS (G : Prg) (T : Nat) (N : Nat → Nat) (D : Nat → Nat → Nat) (v0 : Row) (z : Nat → Bool) (m0 m : ct_M) (E O : EX) : Prop := CW G T N D v0 m0 m ∧ KSet m 965 E.2 (fun i => kC z (E.1 i)) ∧ KSet m 968 O.2 (fun i => kC z (O.1 i))
theorem nxP_none {G : Prg} {T : Nat} {v0 : Row} {p : Pnt} {t : Nat} (h : ¬ (4 ≤ sT p.2 t ∧ sT p.2 t % 4 = 0)) : nxP G T v0 p t = none := if_neg h
theorem nxP_some {G : Prg} {T : Nat} {v0 : Row} {p : Pnt} {t : Nat} (h : 4 ≤ sT p.2 t ∧ sT p.2 t % 4 = 0) : ∃ p', nxP G T v0 p t = some p' := by
  unfold nxP
  rw [if_pos h]
  by_cases c1 : (txO G T v0 (dg p.1) t).1 = 1
  · rw [if_pos c1]; exact ⟨_, rfl⟩
  · rw [if_neg c1]
    by_cases c3 : (txO G T v0 (dg p.1) t).1 = 3
    · rw [if_pos c3]; exact ⟨_, rfl⟩
    · rw [if_neg c3]; exact ⟨_, rfl⟩
theorem kC_mask {z : Nat → Bool} {p : Pnt} (h : VP p.1) (hq : p.2 < 4096) : kC z p &&& (-17732923532771329 : Int64) = kC z (mkO p) := by
  unfold kC
  rw [cc_mask h.1 (fun u _ => sT_lt p.2 u)]
  show lN (ccode z p.1 fun u => sT p.2 u % 4) = lN (ccode z p.1 (sT (om p.2)))
  rw [cc_s (fun u hu => ((om_s p.2 hq).2 u hu).symm)]
theorem c_exT {G : Prg} {T a0 k : Nat} {N : Nat → Nat} {D : Nat → Nat → Nat} {v0 : Row} {z : Nat → Bool} {s0 : Nat → Nat} {p : Pnt} {O : EX} {K35 : Nat → Int32 → ct_M → Prop} {Q : ct_M → Prop} {m0 : ct_M} (hS : SchOK G T N D v0 z s0) (hP : ∀ s, s < T → PG G m0 (11 + 5 * s) s (N s)) (hp : GPt G T v0 a0 z s0 p) (hk : k < 1359) (hO : ∀ i, i < O.2 → GOt (O.1 i)) (hO2 : O.2 ≤ k) : ∀ (n t : Nat) (E : EX) (v5 : Int32) (m : ct_M), t + n = T → CXS G T N D v0 z m0 m E O → (∀ i, i < E.2 → GPt G T v0 a0 z s0 (E.1 i)) → Dst E → ((v5 = 1 ∧ ∀ u, u < t → nxP G T v0 p u = none) ∨ (v5 = 0 ∧ ∃ u, u < t ∧ ¬ nxP G T v0 p u = none)) →
    (∀ m', CXS G T N D v0 z m0 m' (exT (nxP G T v0) p n t E) (cif (∀ t, t < T → nxP G T v0 p t = none) (addE O (mkO p)) O) → K35 964 (nI (k + 1)) m') → wb_X6_explore_69 K35 Q (n + 1) 964 (nI k) (kC z p) v5 (nI t) m := by
  intro n
  obtain ⟨hT, hps, hi, hs, h16⟩ := id hS
  obtain ⟨hva, hq, hc⟩ := id hp
  induction n with
  | zero =>
    intro t E v5 m ht hX hE hd hv h
    have : t = T := by omega
    subst this
    obtain ⟨cw, ke, ko⟩ := hX
    have e3 : m.1 (964 + 7) 3 = nI t := by obtain ⟨⟨v, B, r, -⟩, -⟩ := cw; exact r.2.1
    have fin : wb_X6_explore_119 K35 Q 964 (nI k) (kC z p) v5 m := by
      unfold wb_X6_explore_119 wb_X6_explore_136
      rcases hv with ⟨e, hn⟩ | ⟨e, u, hu, hn⟩
      · subst e
        refine ⟨fun y => absurd y (by decide), fun _ => ?_⟩
        rw [kC_mask hva hq, show 964 + 4 = 968 from rfl]
        have hg := mkO_good hva hq
        refine c_addE (Or.inr rfl) ko (fun j hj e => ?_) (fun _ => by omega) (fun m' f g => ?_)
        · have gj := hO j hj
          refine kC_inj gj.1 hg.1 gj.2.1 hg.2.1 (fun u hu _ => ?_) e
          have := gj.2.2 u hu
          have := hg.2.2 u hu
          omega
        · intro x1 e1
          rw [e1, nI_ofNat 1, nI_add]
          refine h m' ⟨CW_keys hT hps (Or.inr rfl) cw f, KSet_keep ke (f.1 _ (by decide) (by decide)) (f.2 _ (by decide)) (f.1 _ (by decide) (by decide)), ?_⟩
          rw [cif_t hn]; exact g
      · subst e
        refine ⟨fun _ => ?_, fun y => absurd rfl y⟩
        intro x1 e1
        rw [e1, nI_ofNat 1, nI_add]
        refine h m ⟨cw, ke, ?_⟩
        rw [cif_f fun y => hn (y u hu)]; exact ko
    unfold wb_X6_explore_69
    rw [e3]
    exact ⟨fun _ => fin, fun y => absurd ((cmp_le (by omega) (by omega)).mpr (Nat.le_refl _)) y⟩
  | succ n ih =>
    intro t E v5 m ht hX hE hd hv h
    have ht3 : t < 3 := by omega
    have htT : t < T := by omega
    obtain ⟨cw, ke, ko⟩ := hX
    have e3 : m.1 (964 + 7) 3 = nI T := by obtain ⟨⟨v, B, r, -⟩, -⟩ := cw; exact r.2.1
    unfold wb_X6_explore_69
    rw [e3]
    refine ⟨fun y => absurd ((cmp_le (by omega) (by omega)).mp y) (by omega), fun _ => ⟨fun y => absurd ((cmp_le (a := 3) (by decide) (by omega)).mp y) (by omega), fun _ => ?_⟩⟩
    have zs : z t = true → sT p.2 t % 4 = 2 := fun e => by rw [Cod_z hc ht3 e]; exact (hs t ht3).2 e
    unfold kC
    refine cc_can hva.1 (fun u _ => sT_lt p.2 u) ht3 (fun r1 r2 => ⟨fun y => absurd y (by decide), fun _ => ?_⟩) (fun r => ⟨fun _ => ?_, fun y => absurd rfl y⟩)
    · have h4 : 4 ≤ sT p.2 t := by
        unfold rr at r1
        split at r1 <;> omega
      obtain ⟨p', hn⟩ := nxP_some (G := G) (T := T) (v0 := v0) ⟨h4, r2⟩
      have hg := nxP_good hS htT hp hn
      have er : exT (nxP G T v0) p (n + 1) t E = exT (nxP G T v0) p n (t + 1) (addE E p') := by rw [exT, hn]
      rw [er] at h
      refine c_after hS htT hP hp hn cw (fun m1 cw1 o1 l1 => ?_)
      rw [show 964 + 1 = 965 from rfl]
      have ke1 : KSet m1 965 E.2 (fun i => kC z (E.1 i)) := KSet_keep ke (o1 _ (by decide)) (by rw [l1]) (o1 _ (by decide))
      have ko1 : KSet m1 968 O.2 (fun i => kC z (O.1 i)) := KSet_keep ko (o1 _ (by decide)) (by rw [l1]) (o1 _ (by decide))
      obtain ⟨x1, x2, -, -, -⟩ := addE_ok hE hd hg
      refine c_addE (Or.inl rfl) ke1 (fun j hj e => ?_) (fun hno => ?_) (fun m2 f g => ?_)
      · have gj := hE j hj
        refine kC_inj gj.1 hg.1 gj.2.1 hg.2.1 (fun u hu ez => ?_) e
        rw [Cod_z gj.2.2 hu ez, Cod_z hg.2.2 hu ez]
      · have := XI_few hS x1 x2
        rw [addE_out hno] at this
        exact this
      · unfold wb_X6_explore_113
        intro x1' e1
        rw [e1, nI_ofNat 1, nI_add]
        exact ih (t + 1) (addE E p') 0 m2 (by omega) ⟨CW_keys hT hps (Or.inl rfl) cw1 f, g, KSet_keep ko1 (f.1 _ (by decide) (by decide)) (f.2 _ (by decide)) (f.1 _ (by decide) (by decide))⟩ x1 x2 (Or.inr ⟨rfl, t, by omega, by rw [hn]; exact fun y => by cases y⟩) h
    · have hno : ¬ (4 ≤ sT p.2 t ∧ sT p.2 t % 4 = 0) := by
        intro ⟨y1, y2⟩
        refine r ⟨?_, y2⟩
        unfold rr
        cases ez : z t with
        | true => have := zs ez; omega
        | false => show 0 < sT p.2 t / 4; omega
      have hn := nxP_none (G := G) (T := T) (v0 := v0) hno
      have er : exT (nxP G T v0) p (n + 1) t E = exT (nxP G T v0) p n (t + 1) E := by rw [exT, hn]
      rw [er] at h
      unfold wb_X6_explore_113
      intro x1' e1
      rw [e1, nI_ofNat 1, nI_add]
      refine ih (t + 1) E v5 m (by omega) ⟨cw, ke, ko⟩ hE hd ?_ h
      rcases hv with ⟨e, y⟩ | ⟨e, u, hu, y⟩
      · refine Or.inl ⟨e, fun u hu => ?_⟩
        by_cases eu : u = t
        · subst eu; exact hn
        · exact y u (by omega)
      · exact Or.inr ⟨e, u, by omega, y⟩
theorem c_exO {G : Prg} {T a0 : Nat} {N : Nat → Nat} {D : Nat → Nat → Nat} {v0 : Row} {z : Nat → Bool} {s0 : Nat → Nat} {Q : ct_M → Prop} {m0 : ct_M} (hS : SchOK G T N D v0 z s0) (hP : ∀ s, s < T → PG G m0 (11 + 5 * s) s (N s)) : ∀ (f k : Nat) (E O : EX) (m : ct_M), k + f = 1360 → XI G T v0 a0 z s0 k E O → CXS G T N D v0 z m0 m E O → (∀ m', CXS G T N D v0 z m0 m' (exO (nxP G T v0) T f k E O).1 (exO (nxP G T v0) T f k E O).2 → Q m') → wb_X6_explore_35 Q (f + 1) 964 (nI k) m := by
  intro f
  have l1 : ct_ln (964 + 1 + 1) = 1359 := by decide +kernel
  induction f with
  | zero =>
    intro k E O m hk hI _ _
    have := XI_few hS hI.1 hI.2.1
    have := hI.2.2.2.2.2.1
    omega
  | succ f ih =>
    intro k E O m hk hI hX h
    have few := XI_few hS hI.1 hI.2.1
    have hkE := hI.2.2.2.2.2.1
    have sz : m.1 (964 + 1) 1 = nI E.2 := hX.2.1.2.1
    unfold wb_X6_explore_35
    rw [sz]
    rw [exO_s] at h
    by_cases c : k < E.2
    · rw [cif_t c] at h
      refine ⟨fun y => absurd ((cmp_le (by omega) (by omega)).mp y) (by omega), fun _ => ⟨fun y => absurd ((cmp_le (a := 1359) (by decide) (by omega)).mp y) (by omega), fun _ => ?_⟩⟩
      rw [l1, cl (by omega)]
      refine ⟨(vp_nI (by omega)).mpr (by omega), ?_⟩
      intro x5 e5
      rw [show m.2 (964 + 1 + 1) k = kC z (E.1 k) from hX.2.1.2.2.1 k c] at e5
      rw [e5]
      refine ⟨T + 1, c_exT hS hP (hI.1 k c) (by omega) hI.2.2.1 hI.2.2.2.2.1 T 0 E 1 m (by omega) hX hI.1 hI.2.1 (Or.inl ⟨rfl, fun u hu => absurd hu (Nat.not_lt_zero u)⟩) (fun m' hX' => ?_)⟩
      exact ih (k + 1) _ _ m' (by omega) (XI_next hS hI c) hX' h
    · rw [cif_f c] at h
      exact ⟨fun _ => h m hX, fun y => absurd ((cmp_le (by omega) (by omega)).mpr (by omega)) y⟩
/-! the start -/
def zOf (T : Nat) (v0 : Row) (t : Nat) : Bool := decide (t < T ∧ v0 (rAt t) = 3)
def sOf (T : Nat) (v0 : Row) (t : Nat) : Nat := if t < T then 4 * (v0 (rAt t + 47)).toNatClampNeg + (if v0 (rAt t) = 3 then 2 else 0) else 0
def xOf (v0 : Row) (c : Nat) : Nat := (v0 c + 99).toNatClampNeg
def pOf (T : Nat) (v0 : Row) : Pnt := (pk6 (xOf v0), qS (sOf T v0))
noncomputable def E0 (T : Nat) (v0 : Row) : EX := addE (fun _ => (0, 0), 0) (pOf T v0)
def O0 : EX := (fun _ => (0, 0), 0)
theorem sOf_ok {G : Prg} {T B : Nat} {N : Nat → Nat} {D : Nat → Nat → Nat} {v0 : Row} (h : RWf G T N D B v0) : ∀ t, t < 3 → sOf T v0 t / 4 ≤ 2 ∧ (zOf T v0 t = true → sOf T v0 t % 4 = 2) ∧ sOf T v0 t < 16 ∧ (zOf T v0 t = false → sOf T v0 t % 4 = 0) ∧ (t < T → v0 (rAt t + 47) = nI (sOf T v0 t / 4)) ∧ (t < T → (zOf T v0 t = true ↔ v0 (rAt t) = 3)) := by
  intro t ht
  unfold sOf zOf
  by_cases c : t < T
  · obtain ⟨-, -, r, r1, r2, -⟩ := h.2.2.2.1 t c
    have er : (v0 (rAt t + 47)).toNatClampNeg = r := by rw [r2, cl (by omega)]
    rw [if_pos c, er]
    by_cases c3 : v0 (rAt t) = 3
    · rw [if_pos c3]
      refine ⟨by omega, fun _ => by omega, by omega, fun y => ?_, fun _ => ?_, fun _ => ?_⟩
      · rw [decide_eq_true ⟨c, c3⟩] at y; cases y
      · rw [show (4 * r + 2) / 4 = r by omega]; exact r2
      · rw [decide_eq_true ⟨c, c3⟩]; exact ⟨fun _ => c3, fun _ => rfl⟩
    · rw [if_neg c3]
      have hd : decide (t < T ∧ v0 (rAt t) = 3) = false := decide_eq_false fun y => c3 y.2
      rw [hd]
      refine ⟨by omega, fun y => (by cases y), by omega, fun y => by omega, fun _ => ?_, fun _ => ⟨fun y => (by cases y), fun y => absurd y c3⟩⟩
      rw [show (4 * r + 0) / 4 = r by omega]; exact r2
  · rw [if_neg c]
    have hd : decide (t < T ∧ v0 (rAt t) = 3) = false := decide_eq_false fun y => c y.1
    rw [hd]
    exact ⟨by omega, fun y => (by cases y), by omega, fun _ => rfl, fun y => absurd y c, fun y => absurd y c⟩
theorem xOf_ok {G : Prg} {T B : Nat} {N : Nat → Nat} {D : Nat → Nat → Nat} {v0 : Row} (h : RWf G T N D B v0) : ∀ c, c < 6 → xOf v0 c ≤ 198 ∧ v0 c = nI (xOf v0 c) - 99 := fun c hc => V_back (h.1 c hc)
theorem Sch_of {G : Prg} {T B : Nat} {N : Nat → Nat} {D : Nat → Nat → Nat} {v0 : Row} (hT : T ≤ 3) (hs : PSs G T N D) (h : RWf G T N D B v0) : SchOK G T N D v0 (zOf T v0) (sOf T v0) :=
  ⟨hT, hs, h.2.2.1, fun t ht => ⟨(sOf_ok h t ht).1, (sOf_ok h t ht).2.1⟩, fun t ht => (sOf_ok h t ht).2.2.1⟩
theorem pOf_good {G : Prg} {T B : Nat} {N : Nat → Nat} {D : Nat → Nat → Nat} {v0 : Row} (h : RWf G T N D B v0) : GPt G T v0 (pk6 (xOf v0)) (zOf T v0) (sOf T v0) (pOf T v0) := by
  have h16 : ∀ t, t < 3 → sOf T v0 t < 16 := fun t ht => (sOf_ok h t ht).2.2.1
  refine ⟨VP_pk fun c hc => (xOf_ok h c hc).1, qS_lt h16, [], rfl, fun u hu => absurd hu List.not_mem_nil, fun t ht => ⟨Nat.zero_le _, ?_⟩⟩
  have es : sT (pOf T v0).2 t = sOf T v0 t := sT_qS h16 t ht
  rw [es]
  show (rho (zOf T v0) (sOf T v0) t - 0 = 0 ∧ _) ∨ (0 < rho (zOf T v0) (sOf T v0) t - 0 ∧ _)
  obtain ⟨a1, a2, a3, a4, -, -⟩ := sOf_ok h t ht
  unfold rho bse
  cases ez : zOf T v0 t with
  | true => exact Or.inl ⟨rfl, rfl⟩
  | false =>
    have := a4 ez
    by_cases c : sOf T v0 t = 0
    · exact Or.inl ⟨by show sOf T v0 t / 4 - 0 = 0; omega, c⟩
    · refine Or.inr ⟨by show 0 < sOf T v0 t / 4 - 0; omega, 0, by omega, ?_⟩
      show sOf T v0 t = 4 * (sOf T v0 t / 4 - 0) + 0
      omega
theorem XI_start {G : Prg} {T B : Nat} {N : Nat → Nat} {D : Nat → Nat → Nat} {v0 : Row} (hS : SchOK G T N D v0 (zOf T v0) (sOf T v0)) (h : RWf G T N D B v0) : XI G T v0 (pk6 (xOf v0)) (zOf T v0) (sOf T v0) 0 (E0 T v0) O0 := by
  obtain ⟨a, b, c, ⟨k, d, -⟩, e⟩ := addE_ok (P := GPt G T v0 (pk6 (xOf v0)) (zOf T v0) (sOf T v0)) (E := (fun _ => (0, 0), 0)) (p := pOf T v0) (fun i hi => absurd hi (Nat.not_lt_zero i)) (fun i j _ hj => absurd hj (Nat.not_lt_zero j)) (pOf_good h)
  have d : k < (E0 T v0).2 := d
  exact ⟨a, b, fun i hi => absurd hi (Nat.not_lt_zero i), fun i j _ hj => absurd hj (Nat.not_lt_zero j), Nat.le_refl _, Nat.zero_le _, by omega, fun i hi => absurd hi (Nat.not_lt_zero i)⟩
noncomputable def EO (G : Prg) (T : Nat) (v0 : Row) : EX × EX := exO (nxP G T v0) T 1360 0 (E0 T v0) O0
theorem c_explore {G : Prg} {T B : Nat} {N : Nat → Nat} {D : Nat → Nat → Nat} {v0 : Row} {Q : ct_M → Prop} {m : ct_M} (hT : T ≤ 3) (hs : PSs G T N D) (hP : ∀ s, s < T → PG G m (11 + 5 * s) s (N s)) (hok : OkAll m) (hw : RW G m 26 v0 T) (hf : RWf G T N D B v0)
    (h : ∀ m', CXS G T N D v0 (zOf T v0) m m' (EO G T v0).1 (EO G T v0).2 → Q m') : wp_X6_explore 964 26 Q m := by
  have hS := Sch_of hT hs hf
  unfold wp_X6_explore
  rw [show 964 + 1 = 965 from rfl, show 964 + 4 = 968 from rfl, show 964 + 7 = 971 from rfl]
  refine c_clearKeys (key := fun i => kC (zOf T v0) ((fun _ => (0, 0) : Nat → Pnt) i)) (Or.inl rfl) (fun m1 f1 k1 => ?_)
  refine c_clearKeys (key := fun i => kC (zOf T v0) (O0.1 i)) (Or.inr rfl) (fun m2 f2 k2 => ?_)
  have o2 : ∀ q, q ≠ 965 → q ≠ 967 → q ≠ 968 → q ≠ 970 → m2.1 q = m.1 q := fun q q1 q2 q3 q4 => by rw [f2.1 q q3 q4, f1.1 q q1 q2]
  have rw2 : RW G m2 26 v0 T := RW_mem hw hT (RWf_TR hs hf) fun q q1 q2 => o2 q (by omega) (by omega) (by omega) (by omega)
  have ok2 : OkAll m2 := hok.same fun q hq => o2 q (fun e => by subst e; exact absurd hq (by decide +kernel)) (fun e => by subst e; exact absurd hq (by decide +kernel)) (fun e => by subst e; exact absurd hq (by decide +kernel)) (fun e => by subst e; exact absurd hq (by decide +kernel))
  refine c_wcopy K_971 K_26 (ok2 _ K_26) (by omega) (fun m3 f3 cp ok3 => ?_)
  have rw3 := cp G v0 T hT (RWf_TR hs hf) rw2
  have hx := xOf_ok hf
  have hso := sOf_ok hf
  refine c_firstPoint (T := T) (X := xOf v0) (s := sOf T v0) (z := zOf T v0) hT (fun c hc => (hx c hc).1) (fun c hc => ?_) rw3.2.1 (fun u hu => (hso u hu).2.2.1) (fun u u1 _ => if_neg (by omega)) (fun t ht => ?_) ?_
  · rw [show (972 : Nat) = 971 + 1 from rfl, rw3.1.1 c hc]; exact (hx c hc).2
  · obtain ⟨a1, a2, a3, a4, a5, a6⟩ := hso t (by omega)
    have w1 : m3.1 (978 + 15 * t) 1 = v0 (rAt t) := (rw3.2.2.2 t ht).1.1
    have w2 : m3.1 (978 + 15 * t) 2 = v0 (rAt t + 47) := (rw3.2.2.2 t ht).1.2.1
    rw [w1, w2]
    cases ez : zOf T v0 t with
    | true => exact Or.inl ⟨(a6 ht).mp ez, rfl, a2 ez⟩
    | false => exact Or.inr ⟨fun y => by rw [(a6 ht).mpr y] at ez; exact absurd ez (by decide), rfl, a4 ez, a5 ht⟩
  · have ep : lN (ccode (zOf T v0) (pk6 (xOf v0)) (sOf T v0)) = kC (zOf T v0) (pOf T v0) := by
      unfold kC
      show _ = lN (ccode (zOf T v0) (pk6 (xOf v0)) (sT (qS (sOf T v0))))
      rw [cc_s (fun u hu => (sT_qS (fun t ht => (hso t ht).2.2.1) u hu).symm)]
    rw [ep]
    have k31 : KSet m3 965 0 (fun i => kC (zOf T v0) ((fun _ => (0, 0) : Nat → Pnt) i)) := KSet_keep k1 (by rw [f3.2 _ (by decide), f2.1 _ (by decide) (by decide)]) (by rw [f3.1.1, f2.2 _ (by decide)]) (by rw [f3.2 _ (by decide), f2.1 _ (by decide) (by decide)])
    have k32 : KSet m3 968 0 (fun i => kC (zOf T v0) (O0.1 i)) := KSet_keep k2 (f3.2 _ (by decide)) (by rw [f3.1.1]) (f3.2 _ (by decide))
    refine c_addE (E := (fun _ => (0, 0), 0)) (Or.inl rfl) k31 (fun k hk => absurd hk (Nat.not_lt_zero k)) (fun _ => by decide) (fun m4 f4 k4 => ⟨1361, ?_⟩)
    have cw3 : CW G T N D v0 m m3 := ⟨⟨v0, B, rw3, hf, fun _ _ _ => rfl⟩, ok2.keep K_971 f3, fun q hq => (f3.2 q (by omega)).trans (o2 q (by omega) (by omega) (by omega) (by omega)), fun q q1 q2 => by rw [f3.1.1, f2.2 q (by omega), f1.2 q (by omega)]⟩
    exact c_exO hS hP 1360 0 (E0 T v0) O0 m4 (by omega) (XI_start hS hf) ⟨CW_keys hT hs (Or.inl rfl) cw3 f4, k4, KSet_keep k32 (f4.1 _ (by decide) (by decide)) (f4.2 _ (by decide)) (f4.1 _ (by decide) (by decide))⟩ h
