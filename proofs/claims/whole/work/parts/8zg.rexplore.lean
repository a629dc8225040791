/-! the reference explores -/
theorem kR_mask {p : Pnt} (h : VP p.1) (hq : p.2 < 4096) : kR p &&& (-3277 : Int64) = kR (mkO p) := by
  unfold kR
  exact rc_mask h.2 hq
theorem r_addOE {O : EX} {p : Pnt} {Q : ct_M → Prop} {m : ct_M} (hn : O.2 < 4096) (hv : VP p.1) (hq : p.2 < 4096) (hK : RKey m 33 1046 O.2 (fun i => kR (O.1 i))) (hi : ∀ k, k < O.2 → kR (O.1 k) = kR (mkO p) → O.1 k = mkO p) (h : ∀ m', RFr 33 1046 m m' → RKey m' 33 1046 (addE O (mkO p)).2 (fun i => kR ((addE O (mkO p)).1 i)) → Q m') : wp_X12_addOutcome 1023 (kR p) Q m := by
  refine r_addOut hn (kR_mask hv hq) hK (fun k hk e => ?_) (fun hno m' f g => h m' f ?_)
  · refine h m RFr.rf ?_
    rw [addE_in ⟨k, hk, hi k hk e⟩]; exact hK
  · rw [addE_out fun ⟨k, hk, e⟩ => hno k hk (by rw [e])]
    rw [kAdd_compR] at g
    exact g
def RXS (m0 m : ct_M) (E O : EX) : Prop := RC m0 m ∧ RKey m 31 1045 E.2 (fun i => kR (E.1 i)) ∧ RKey m 33 1046 O.2 (fun i => kR (O.1 i))
theorem le3 : ∀ k, k < 16 → (nI k ≤ (3 : Int32) ↔ k ≤ 3) := fun k hk => cmp_le (b := 3) (by omega) (by decide)
theorem r_exT {G : Prg} {T B k : Nat} {N : Nat → Nat} {D : Nat → Nat → Nat} {v0 : Row} {p : Pnt} {O : EX} {K68 : Nat → Int32 → ct_M → Prop} {Q : ct_M → Prop} {m0 : ct_M} (hT : T ≤ 3) (hps : PSs G T N D) (hf : RWf G T N D B v0) (hB : B < 2 ^ 29) (hG : HasP G m0) (hth : m0.1 1023 4 = nI T) (h30 : m0.1 1030 = v0) (hp : GPt G T v0 (pk6 (xOf v0)) (zOf T v0) (sOf T v0) p) (hk : k < 1359) (hO : ∀ i, i < O.2 → GOt (O.1 i)) (hO2 : O.2 ≤ k) : ∀ (n t : Nat) (E : EX) (v3 : Int32) (m : ct_M), t + n = T → RXS m0 m E O → (∀ i, i < E.2 → GPt G T v0 (pk6 (xOf v0)) (zOf T v0) (sOf T v0) (E.1 i)) → Dst E → k < E.2 → E.1 k = p → ((v3 = 1 ∧ ∀ u, u < t → nxP G T v0 p u = none) ∨ (v3 = 0 ∧ ∃ u, u < t ∧ ¬ nxP G T v0 p u = none)) →
    (∀ m', RXS m0 m' (exT (nxP G T v0) p n t E) (cif (∀ t, t < T → nxP G T v0 p t = none) (addE O (mkO p)) O) → K68 1023 (nI (k + 1)) m') → wb_X12_explore_81 K68 Q (n + 1) 1023 (nI k) v3 (nI t) m := by
  intro n
  have hS := Sch_of hT hps hf
  obtain ⟨hva, hq, hc⟩ := id hp
  have l45 : ct_ln (1023 + 22) = 4096 := by decide
  induction n with
  | zero =>
    intro t E v3 m ht hX hE hd hkE hkp hv h
    have : t = T := by omega
    subst this
    obtain ⟨rc, ke, ko⟩ := hX
    have e4 : m.1 1023 4 = nI t := by rw [rc.2.1 4 (by decide) (by decide) (by decide)]; exact hth
    have ek : m.2 (1023 + 22) k = kR p := by rw [← hkp]; exact ke.2 k hkE
    unfold wb_X12_explore_81 wb_X12_explore_150
    rw [e4]
    refine ⟨fun _ => ⟨fun y => ?_, fun y => ?_⟩, fun y => absurd ((cmp_le (by omega) (by omega)).mpr (Nat.le_refl _)) y⟩
    · intro x1 e1
      rw [e1, nI_ofNat 1, nI_add]
      refine h m ⟨rc, ke, ?_⟩
      rcases hv with ⟨e, -⟩ | ⟨-, u, hu, hn⟩
      · rw [e] at y; exact absurd y (by decide)
      · rw [cif_f fun z => hn (z u hu)]; exact ko
    · rcases hv with ⟨e, hn⟩ | ⟨e, -⟩
      · rw [l45, cl (by omega), ek]
        refine ⟨(vp_nI (by omega)).mpr (by omega), ?_⟩
        have hg := mkO_good hva hq
        refine r_addOE (by omega) hva hq ko (fun j hj e => kR_inj (hO j hj).1 hg.1 (hO j hj).2.1 hg.2.1 e) (fun m' f g => ?_)
        intro x1 e1
        rw [e1, nI_ofNat 1, nI_add]
        refine h m' ⟨rc.tr f.C3, ⟨by rw [f.2.1 31 (by decide)]; exact ke.1, fun j hj => by rw [f.2.2 1045 (by decide)]; exact ke.2 j hj⟩, ?_⟩
        rw [cif_t hn]; exact g
      · exact absurd e y
  | succ n ih =>
    intro t E v3 m ht hX hE hd hkE hkp hv h
    have ht3 : t < 3 := by omega
    have htT : t < T := by omega
    obtain ⟨rc, ke, ko⟩ := hX
    have e4 : m.1 1023 4 = nI T := by rw [rc.2.1 4 (by decide) (by decide) (by decide)]; exact hth
    have ek : m.2 (1023 + 22) k = kR p := by rw [← hkp]; exact ke.2 k hkE
    have few := XI_few hS hE hd
    have o16 := sT_lt p.2 t
    obtain ⟨-, -, -, d4⟩ := odd16 (sT p.2 t) o16
    unfold wb_X12_explore_81
    rw [e4, l45, cl (n := k) (by omega), ek]
    refine ⟨fun y => absurd ((cmp_le (by omega) (by omega)).mp y) (by omega), fun _ => ⟨(vp_nI (by omega)).mpr (by omega), ?_⟩⟩
    have skip : ¬ (4 ≤ sT p.2 t ∧ sT p.2 t % 4 = 0) → wb_X12_explore_130 K68 (wb_X12_explore_81 K68 Q (n + 1)) Q 1023 (nI k) v3 (nI t) m := by
      intro hno
      have hn := nxP_none (G := G) (T := T) (v0 := v0) hno
      have er : exT (nxP G T v0) p (n + 1) t E = exT (nxP G T v0) p n (t + 1) E := by rw [exT, hn]
      rw [er] at h
      unfold wb_X12_explore_130
      intro x1 e1
      rw [e1, nI_ofNat 1, nI_add]
      refine ih (t + 1) E v3 m (by omega) ⟨rc, ke, ko⟩ hE hd hkE hkp ?_ h
      rcases hv with ⟨e, y⟩ | ⟨e, u, hu, y⟩
      · refine Or.inl ⟨e, fun u hu => ?_⟩
        by_cases eu : u = t
        · subst eu; exact hn
        · exact y u (by omega)
      · exact Or.inr ⟨e, u, by omega, y⟩
    unfold kR
    refine rc_thread hva.2 hq ht3 ?_
    refine ⟨fun y => skip fun z => by have := (le3 _ o16).mp y; omega, fun y => ⟨fun y2 => skip fun z => y2 (d4.mpr z.2), fun y2 => ?_⟩⟩
    have h4 : 4 ≤ sT p.2 t := by
      refine Nat.lt_of_not_le fun z => y ((le3 _ o16).mpr z)
    have h40 := d4.mp y2
    obtain ⟨p', hn⟩ := nxP_some (G := G) (T := T) (v0 := v0) ⟨h4, h40⟩
    have hg := nxP_good hS htT hp hn
    have er : exT (nxP G T v0) p (n + 1) t E = exT (nxP G T v0) p n (t + 1) (addE E p') := by rw [exT, hn]
    rw [er] at h
    refine ⟨(vp_nI (by omega)).mpr (by omega), ?_⟩
    rw [ek]
    obtain ⟨x1, x2, x3, -, -⟩ := addE_ok hE hd hg
    refine r_schedule hT hps hf hB htT hG hth h30 rc hp hn (by omega) (fun i hi => ⟨(hE i hi).1, (hE i hi).2.1⟩) ke (fun m' rc' l1 l2 g => ?_)
    unfold wb_X12_explore_130
    intro x1' e1
    rw [e1, nI_ofNat 1, nI_add]
    refine ih (t + 1) (addE E p') 0 m' (by omega) ⟨rc', g, by rw [RKey, l2]; exact ⟨ko.1, fun j hj => by rw [l1 1046 (by decide)]; exact ko.2 j hj⟩⟩ x1 x2 (by have := x3.1; omega) ((x3.2 k hkE).trans hkp) (Or.inr ⟨rfl, t, by omega, by rw [hn]; exact fun y => by cases y⟩) h
theorem r_exO {G : Prg} {T B : Nat} {N : Nat → Nat} {D : Nat → Nat → Nat} {v0 : Row} {Q : ct_M → Prop} {m0 : ct_M} (hT : T ≤ 3) (hps : PSs G T N D) (hf : RWf G T N D B v0) (hB : B < 2 ^ 29) (hG : HasP G m0) (hth : m0.1 1023 4 = nI T) (h30 : m0.1 1030 = v0) : ∀ (f k : Nat) (E O : EX) (m : ct_M), k + f = 1360 → XI G T v0 (pk6 (xOf v0)) (zOf T v0) (sOf T v0) k E O → RXS m0 m E O → (∀ m', RXS m0 m' (exO (nxP G T v0) T f k E O).1 (exO (nxP G T v0) T f k E O).2 → Q m') → wb_X12_explore_68 Q (f + 1) 1023 (nI k) m := by
  intro f
  have hS := Sch_of hT hps hf
  induction f with
  | zero =>
    intro k E O m hk hI _ _
    have := XI_few hS hI.1 hI.2.1
    have := hI.2.2.2.2.2.1
    omega
  | succ f ih =>
    intro k E O m hk hI hX h
    have few := XI_few hS hI.1 hI.2.1
    have hkE := hI.2.2.2.2.2.1
    have sz : m.1 1023 31 = nI E.2 := hX.2.1.1
    unfold wb_X12_explore_68
    rw [sz]
    rw [exO_s] at h
    by_cases c : k < E.2
    · rw [cif_t c] at h
      refine ⟨fun y => absurd ((cmp_le (by omega) (by omega)).mp y) (by omega), fun _ => ⟨T + 1, ?_⟩⟩
      refine r_exT hT hps hf hB hG hth h30 (hI.1 k c) (by omega) hI.2.2.1 hI.2.2.2.2.1 T 0 E 1 m (by omega) hX hI.1 hI.2.1 c rfl (Or.inl ⟨rfl, fun u hu => absurd hu (Nat.not_lt_zero u)⟩) (fun m' hX' => ?_)
      exact ih (k + 1) _ _ m' (by omega) (XI_next hS hI c) hX' h
    · rw [cif_f c] at h
      exact ⟨fun _ => h m hX, fun y => absurd ((cmp_le (by omega) (by omega)).mpr (by omega)) y⟩
theorem bitsP_y {f : Nat → Nat} {u : Nat} (h : f u = 1) : bitsP f (u + 1) = (bitsP f u ||| 2 ^ u) := if_pos h
theorem bitsP_n {f : Nat → Nat} {u : Nat} (h : ¬ f u = 1) : bitsP f (u + 1) = bitsP f u := if_neg h
theorem r_explore {G : Prg} {T B : Nat} {N : Nat → Nat} {D : Nat → Nat → Nat} {v0 : Row} {Q : ct_M → Prop} {m : ct_M} (hT : T ≤ 3) (hps : PSs G T N D) (hf : RWf G T N D B v0) (hB : B < 2 ^ 29) (hG : HasP G m) (hth : m.1 1023 4 = nI T) (h30 : m.1 1030 = v0)
    (h : ∀ m', RXS m m' (EO G T v0).1 (EO G T v0).2 → Q m') : wp_X12_explore 1023 Q m := by
  have hS := Sch_of hT hps hf
  have hx := xOf_ok hf
  have hso := sOf_ok hf
  have l30 : ct_ln (1023 + 7) = 172 := by decide
  unfold wp_X12_explore
  intro m1 e1 m2 e2
  have rc2 : RC m m2 := by
    subst e2 e1
    exact ⟨fun q a _ => by rw [ct_st_ne a, ct_st_ne a], fun j _ b c => by rw [ct_st_eq, upd_ne _ _ c, ct_st_eq, upd_ne _ _ b], fun _ _ _ => rfl⟩
  have k31 : m2.1 1023 31 = 0 := by subst e2 e1; rw [ct_st_eq, upd_ne _ _ (by decide), ct_st_eq, upd_same]
  have k33 : m2.1 1023 33 = 0 := by subst e2; rw [ct_st_eq, upd_same]
  have t2 : m2.1 1023 4 = nI T := by rw [rc2.2.1 4 (by decide) (by decide) (by decide)]; exact hth
  have v2 : m2.1 (1023 + 7) = v0 := by rw [show 1023 + 7 = 1030 from rfl, rc2.1 _ (by decide) (by decide)]; exact h30
  have loop : ∀ (n t : Nat), t + n = T → wb_X12_explore_14 Q (n + 1) 1023 (nI (bitsP (fun u => if v0 (rAt u) = 3 then 1 else 0) t)) (nI t) m2 := by
    intro n
    induction n with
    | zero =>
      intro t ht
      have : t = T := by omega
      subst this
      unfold wb_X12_explore_14
      rw [t2]
      refine ⟨fun _ => ?_, fun y => absurd ((cmp_le (by omega) (by omega)).mpr (Nat.le_refl _)) y⟩
      obtain ⟨b1, b2⟩ := bitsP_ok (f := fun u => if v0 (rAt u) = 3 then 1 else 0) t hT
      obtain ⟨rf, hrf⟩ : ∃ rf : Nat → Nat, ∀ s, rf s = sOf t v0 s / 4 := ⟨_, fun _ => rfl⟩
      rw [show (0 : Int32) = nI 0 from rfl]
      refine r_keyOf (A := 1023 + 7) (X := xOf v0) (r := rf) l30 b1 (by decide) (fun c hc => (hx c hc).1) (fun s hs => by have := (hso s hs).1; rw [hrf]; omega) (fun c hc => by rw [v2]; exact (hx c hc).2) (fun s hs => ?_) ?_
      · rw [v2, hrf]
        by_cases c : s < t
        · exact (hso s hs).2.2.2.2.1 c
        · have : sOf t v0 s = 0 := if_neg c
          rw [this]
          exact hf.2.2.2.2 s (by omega) hs
      · have ek : lN (4096 * rV (xOf v0) + qS (stS rf (bitsP (fun u => if v0 (rAt u) = 3 then 1 else 0) t) 0)) = kR (pOf t v0) := by
          unfold kR rcode
          have e1 : rV (dg (pOf t v0).1) = rV (xOf v0) := rV_c fun c hc => dg_pk (fun c hc => by have := (hx c hc).1; omega) c hc
          have e2 : qS (stS rf (bitsP (fun u => if v0 (rAt u) = 3 then 1 else 0) t) 0) = (pOf t v0).2 := qS_c fun s hs => by
            unfold stS
            rw [b2 s hs, Nat.zero_div, hrf]
            obtain ⟨a1, a2, a3, a4, a5, a6⟩ := hso s hs
            by_cases c : s < t
            · by_cases c3 : v0 (rAt s) = 3
              · rw [if_pos ⟨c, if_pos c3⟩]
                have := a2 ((a6 c).mpr c3)
                omega
              · have hzf : zOf t v0 s = false := by
                  cases ez : zOf t v0 s with
                  | false => rfl
                  | true => exact absurd ((a6 c).mp ez) c3
                have := a4 hzf
                rw [if_neg fun y => by rw [if_neg c3] at y; exact absurd y.2 (by decide)]
                omega
            · have : sOf t v0 s = 0 := if_neg c
              rw [if_neg fun y => c y.1, this]
          rw [e1, e2]
        rw [ek]
        refine r_addE (E := (fun _ => (0, 0), 0)) (by decide) ⟨k31, fun k hk => absurd hk (Nat.not_lt_zero k)⟩ (fun k hk => absurd hk (Nat.not_lt_zero k)) (fun m' f g => ⟨1361, ?_⟩)
        exact r_exO hT hps hf hB hG hth h30 1360 0 (E0 t v0) O0 m' (by omega) (XI_start hS hf) ⟨rc2.tr f.C1, g, ⟨by rw [f.2.1 33 (by decide)]; exact k33, fun k hk => absurd hk (Nat.not_lt_zero k)⟩⟩ h
    | succ n ih =>
      intro t ht
      have ht3 : t < 3 := by omega
      unfold wb_X12_explore_14
      rw [t2]
      refine ⟨fun y => absurd ((cmp_le (by omega) (by omega)).mp y) (by omega), fun _ => r_at ?_⟩
      have e0 : nI (rAt t) + (0 : Int32) = nI (rAt t) := Int32.add_zero _
      rw [e0, l30, cl (by unfold rAt; omega), v2]
      refine ⟨(vp_nI (by unfold rAt; omega)).mpr (by unfold rAt; omega), fun y => ?_, fun y => ?_⟩
      · unfold wb_X12_explore_45
        intro x1 h1 x2 h2
        rw [Int32.or_zero] at h1
        rw [h2, nI_ofNat 1, nI_add, h1]
        have := ih (t + 1) (by omega)
        have eb : bitsP (fun u => if v0 (rAt u) = 3 then 1 else 0) (t + 1) = bitsP (fun u => if v0 (rAt u) = 3 then 1 else 0) t := bitsP_n (show ¬ (if v0 (rAt t) = 3 then 1 else 0) = 1 by rw [if_neg y]; decide)
        rw [eb] at this
        exact this
      · unfold wb_X12_explore_45
        intro x1 h1 x2 h2
        obtain ⟨b1, -⟩ := bitsP_ok (f := fun u => if v0 (rAt u) = 3 then 1 else 0) t (by omega)
        rw [(or_bit _ b1 t ht3).1] at h1
        rw [h2, nI_ofNat 1, nI_add, h1]
        have := ih (t + 1) (by omega)
        have eb : bitsP (fun u => if v0 (rAt u) = 3 then 1 else 0) (t + 1) = (bitsP (fun u => if v0 (rAt u) = 3 then 1 else 0) t ||| 2 ^ t) := bitsP_y (show (if v0 (rAt t) = 3 then 1 else 0) = 1 by rw [if_pos y])
        rw [eb] at this
        exact this
  exact ⟨T + 1, loop T 0 (by omega)⟩
