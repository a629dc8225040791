/-! exploring -/
abbrev EX : Type := (Nat → Pnt) × Nat
noncomputable def addE (E : EX) (p : Pnt) : EX := cif (∃ k, k < E.2 ∧ E.1 k = p) E (kAdd E.1 E.2 p, E.2 + 1)
noncomputable def exT (nx : Pnt → Nat → Option Pnt) (p : Pnt) : Nat → Nat → EX → EX
  | 0, _, E => E
  | n + 1, t, E => match nx p t with
    | none => exT nx p n (t + 1) E
    | some p' => exT nx p n (t + 1) (addE E p')
def mkO (p : Pnt) : Pnt := (p.1, om p.2)
noncomputable def exO (nx : Pnt → Nat → Option Pnt) (T : Nat) : Nat → Nat → EX → EX → EX × EX
  | 0, _, E, O => (E, O)
  | f + 1, k, E, O => cif (k < E.2) (exO nx T f (k + 1) (exT nx (E.1 k) T 0 E) (cif (∀ t, t < T → nx (E.1 k) t = none) (addE O (mkO (E.1 k))) O)) (E, O)
/-- the standing assumptions -/
def SchOK (G : Prg) (T : Nat) (N : Nat → Nat) (D : Nat → Nat → Nat) (v0 : Row) (z : Nat → Bool) (s0 : Nat → Nat) : Prop := T ≤ 3 ∧ PSs G T N D ∧ (∃ k, rInvs v0 k) ∧ (∀ t, t < 3 → s0 t / 4 ≤ 2 ∧ (z t = true → s0 t % 4 = 2)) ∧ (∀ t, t < 3 → s0 t < 16)
theorem tx_good {G : Prg} {T t n : Nat} {dp : Nat → Nat} {v0 : Row} {X : Nat → Nat} (hs : PS G t n dp) (ht : t < 3) (hi : ∃ k, rInvs v0 k) (hX : ∀ c, c < 6 → X c ≤ 198) : ((txO G T v0 X t).1 = 1 ∨ (txO G T v0 X t).1 = 3 ∨ (txO G T v0 X t).1 = 4) ∧ ((txO G T v0 X t).1 = 1 → (∀ c, c < 6 → txV G T v0 X t c ≤ 198) ∧ ∃ x : Nat, x < 64 ∧ (txO G T v0 X t).2.2 = nI x) := by
  obtain ⟨⟨a, b⟩, c⟩ := tx_end (w := 0) hs ht hi hX (Stt_K (v0 := v0) (X := X) (t := t))
  refine ⟨?_, c⟩
  rw [← a]
  rcases b with ⟨b, -⟩ | ⟨b, -⟩
  · exact Or.inl b
  · exact Or.inr b
theorem awS_16 {q t δ : Nat} (h : sT q t % 4 = 0) (hδ : δ < 3) (ht : t < 3) : ∀ u, u < 3 → awSet (sT q) t (sT q t + δ) u < 16 := awS_lt (fun u _ => sT_lt q u) (by have := sT_lt q t; omega)
theorem nxP_cases {G : Prg} {T : Nat} {v0 : Row} {p p' : Pnt} {t : Nat} (h : nxP G T v0 p t = some p') : 4 ≤ sT p.2 t ∧ sT p.2 t % 4 = 0 ∧
    (((txO G T v0 (dg p.1) t).1 = 1 ∧ p' = (pk6 (txV G T v0 (dg p.1) t), qS (nxC (sT p.2) t (txO G T v0 (dg p.1) t).2.2.toNatClampNeg))) ∨
     ((txO G T v0 (dg p.1) t).1 = 3 ∧ p' = (p.1, qS (awSet (sT p.2) t (sT p.2 t + 1)))) ∨
     (¬ (txO G T v0 (dg p.1) t).1 = 1 ∧ ¬ (txO G T v0 (dg p.1) t).1 = 3 ∧ p' = (p.1, qS (awSet (sT p.2) t (sT p.2 t + 2))))) := by
  unfold nxP at h
  by_cases c : 4 ≤ sT p.2 t ∧ sT p.2 t % 4 = 0
  · rw [if_pos c] at h
    refine ⟨c.1, c.2, ?_⟩
    by_cases c1 : (txO G T v0 (dg p.1) t).1 = 1
    · rw [if_pos c1] at h
      exact Or.inl ⟨c1, (Option.some.inj h).symm⟩
    · rw [if_neg c1] at h
      by_cases c3 : (txO G T v0 (dg p.1) t).1 = 3
      · rw [if_pos c3] at h
        exact Or.inr (Or.inl ⟨c3, (Option.some.inj h).symm⟩)
      · rw [if_neg c3] at h
        exact Or.inr (Or.inr ⟨c1, c3, (Option.some.inj h).symm⟩)
  · rw [if_neg c] at h; cases h
theorem nxP_good {G : Prg} {T a0 t : Nat} {N : Nat → Nat} {D : Nat → Nat → Nat} {v0 : Row} {z : Nat → Bool} {s0 : Nat → Nat} {p p' : Pnt} (hS : SchOK G T N D v0 z s0) (ht : t < T) (hp : GPt G T v0 a0 z s0 p) (h : nxP G T v0 p t = some p') : GPt G T v0 a0 z s0 p' := by
  obtain ⟨hT, hps, hi, hs, h16⟩ := hS
  obtain ⟨⟨v1, v2⟩, hq, hc⟩ := hp
  have ht3 : t < 3 := by omega
  obtain ⟨h4, h40, h3⟩ := nxP_cases h
  obtain ⟨-, tg⟩ := tx_good (T := T) (hps t ht) ht3 hi v2
  rcases h3 with ⟨e1, e2⟩ | ⟨e1, e2⟩ | ⟨e1, -, e2⟩
  · obtain ⟨g1, x, g2, g3⟩ := tg e1
    have hl := nxC_lt (s := sT p.2) (t := t) (x := (txO G T v0 (dg p.1) t).2.2.toNatClampNeg) (fun u _ => sT_lt p.2 u) ht3
    subst e2
    exact ⟨VP_pk g1, qS_lt hl, Cod_commit hc hs ht3 h4 h40 rfl (fun u hu => sT_qS hl u hu)⟩
  · have hl := awS_16 (δ := 1) h40 (by omega) ht3
    subst e2
    exact ⟨⟨v1, v2⟩, qS_lt hl, Cod_status hc hs ht3 h4 h40 (δ := 1) (by omega) rfl (fun u hu => sT_qS hl u hu)⟩
  · have hl := awS_16 (δ := 2) h40 (by omega) ht3
    subst e2
    exact ⟨⟨v1, v2⟩, qS_lt hl, Cod_status hc hs ht3 h4 h40 (δ := 2) (by omega) rfl (fun u hu => sT_qS hl u hu)⟩
/-- how much is left -/
def mea (q : Nat) : Nat := (4 * (sT q 0 / 4) + (3 - sT q 0 % 4)) + (4 * (sT q 1 / 4) + (3 - sT q 1 % 4)) + (4 * (sT q 2 / 4) + (3 - sT q 2 % 4))
theorem nxP_less {G : Prg} {T : Nat} {v0 : Row} {p p' : Pnt} {t : Nat} (ht : t < 3) (h : nxP G T v0 p t = some p') : mea p'.2 < mea p.2 := by
  obtain ⟨h4, h40, h3⟩ := nxP_cases h
  have key : ∀ s' : Nat → Nat, (∀ u, u < 3 → s' u < 16) → (4 * (s' t / 4) + (3 - s' t % 4) + 3 ≤ 4 * (sT p.2 t / 4) + (3 - sT p.2 t % 4) ∧ (∀ u, u < 3 → u ≠ t → 4 * (s' u / 4) + (3 - s' u % 4) ≤ 4 * (sT p.2 u / 4) + (3 - sT p.2 u % 4) + 1)) ∨ (4 * (s' t / 4) + (3 - s' t % 4) < 4 * (sT p.2 t / 4) + (3 - sT p.2 t % 4) ∧ (∀ u, u < 3 → u ≠ t → s' u = sT p.2 u)) → mea (qS s') < mea p.2 := by
    intro s' hl h
    unfold mea
    rw [sT_qS hl 0 (by omega), sT_qS hl 1 (by omega), sT_qS hl 2 (by omega)]
    have : t = 0 ∨ t = 1 ∨ t = 2 := by omega
    rcases h with ⟨h1, h2⟩ | ⟨h1, h2⟩
    · rcases this with e | e | e <;> subst e
      · have := h2 1 (by omega) (by omega)
        have := h2 2 (by omega) (by omega)
        omega
      · have := h2 0 (by omega) (by omega)
        have := h2 2 (by omega) (by omega)
        omega
      · have := h2 0 (by omega) (by omega)
        have := h2 1 (by omega) (by omega)
        omega
    · rcases this with e | e | e <;> subst e
      · rw [h2 1 (by omega) (by omega), h2 2 (by omega) (by omega)]; omega
      · rw [h2 0 (by omega) (by omega), h2 2 (by omega) (by omega)]; omega
      · rw [h2 0 (by omega) (by omega), h2 1 (by omega) (by omega)]; omega
  rcases h3 with ⟨-, e2⟩ | ⟨-, e2⟩ | ⟨-, -, e2⟩
  · subst e2
    refine key _ (nxC_lt (fun u _ => sT_lt p.2 u) ht) (Or.inl ⟨?_, fun u hu hut => ?_⟩)
    · unfold nxC
      split
      · rw [awS_eq]; omega
      · show 4 * ((awSet (sT p.2) t (sT p.2 t - 4) t - awSet (sT p.2) t (sT p.2 t - 4) t % 2) / 4) + (3 - (awSet (sT p.2) t (sT p.2 t - 4) t - awSet (sT p.2) t (sT p.2 t - 4) t % 2) % 4) + 3 ≤ _
        rw [awS_eq]; omega
    · unfold nxC
      split
      · rw [awS_ne hut]; omega
      · show 4 * ((awSet (sT p.2) t (sT p.2 t - 4) u - awSet (sT p.2) t (sT p.2 t - 4) u % 2) / 4) + (3 - (awSet (sT p.2) t (sT p.2 t - 4) u - awSet (sT p.2) t (sT p.2 t - 4) u % 2) % 4) ≤ _
        rw [awS_ne hut]; omega
  · subst e2
    refine key _ (awS_16 (δ := 1) h40 (by omega) ht) (Or.inr ⟨?_, fun u hu hut => awS_ne hut⟩)
    rw [awS_eq]; omega
  · subst e2
    refine key _ (awS_16 (δ := 2) h40 (by omega) ht) (Or.inr ⟨?_, fun u hu hut => awS_ne hut⟩)
    rw [awS_eq]; omega
/-- lists without doubles -/
def Dst (E : EX) : Prop := ∀ i j, i < j → j < E.2 → ¬ E.1 i = E.1 j
def Sub (E E' : EX) : Prop := E.2 ≤ E'.2 ∧ ∀ i, i < E.2 → E'.1 i = E.1 i
theorem Sub.tr {E E' E'' : EX} (h : Sub E E') (g : Sub E' E'') : Sub E E'' := ⟨by have := h.1; have := g.1; omega, fun i hi => (g.2 i (by have := h.1; omega)).trans (h.2 i hi)⟩
theorem addE_in {E : EX} {p : Pnt} (h : ∃ k, k < E.2 ∧ E.1 k = p) : addE E p = E := cif_t h
theorem addE_out {E : EX} {p : Pnt} (h : ¬ ∃ k, k < E.2 ∧ E.1 k = p) : addE E p = (kAdd E.1 E.2 p, E.2 + 1) := cif_f h
theorem addE_ok {P : Pnt → Prop} {E : EX} {p : Pnt} (hE : ∀ i, i < E.2 → P (E.1 i)) (hd : Dst E) (hp : P p) : (∀ i, i < (addE E p).2 → P ((addE E p).1 i)) ∧ Dst (addE E p) ∧ Sub E (addE E p) ∧ (∃ k, k < (addE E p).2 ∧ (addE E p).1 k = p) ∧ (addE E p).2 ≤ E.2 + 1 := by
  by_cases h : ∃ k, k < E.2 ∧ E.1 k = p
  · rw [addE_in h]
    exact ⟨hE, hd, ⟨Nat.le_refl _, fun _ _ => rfl⟩, h, by omega⟩
  · rw [addE_out h]
    refine ⟨fun i hi => ?_, fun i j hij hj => ?_, ⟨by show E.2 ≤ E.2 + 1; omega, fun i hi => if_neg (by omega)⟩, ⟨E.2, by show E.2 < E.2 + 1; omega, if_pos rfl⟩, Nat.le_refl _⟩
    · have hi : i < E.2 + 1 := hi
      show P (kAdd E.1 E.2 p i)
      unfold kAdd
      by_cases e : i = E.2
      · rw [if_pos e]; exact hp
      · rw [if_neg e]; exact hE i (by omega)
    · have hj : j < E.2 + 1 := hj
      show ¬ kAdd E.1 E.2 p i = kAdd E.1 E.2 p j
      unfold kAdd
      rw [if_neg (by omega)]
      by_cases e : j = E.2
      · rw [if_pos e]; exact fun y => h ⟨i, by omega, y⟩
      · rw [if_neg e]; exact hd i j hij (by omega)
theorem exT_ok {P : Pnt → Prop} {nx : Pnt → Nat → Option Pnt} {p : Pnt} {T : Nat} (hn : ∀ t p', t < T → nx p t = some p' → P p') : ∀ (n t : Nat) (E : EX), t + n = T → (∀ i, i < E.2 → P (E.1 i)) → Dst E → (∀ i, i < (exT nx p n t E).2 → P ((exT nx p n t E).1 i)) ∧ Dst (exT nx p n t E) ∧ Sub E (exT nx p n t E) ∧ ∀ u p', t ≤ u → u < T → nx p u = some p' → ∃ k, k < (exT nx p n t E).2 ∧ (exT nx p n t E).1 k = p' := by
  intro n
  induction n with
  | zero => intro t E ht hE hd; exact ⟨hE, hd, ⟨Nat.le_refl _, fun _ _ => rfl⟩, fun u p' h1 h2 => by omega⟩
  | succ n ih =>
    intro t E ht hE hd
    cases e : nx p t with
    | none =>
      have er : exT nx p (n + 1) t E = exT nx p n (t + 1) E := by rw [exT, e]
      rw [er]
      obtain ⟨a, b, c, d⟩ := ih (t + 1) E (by omega) hE hd
      refine ⟨a, b, c, fun u p' h1 h2 h3 => ?_⟩
      by_cases eu : u = t
      · subst eu; rw [e] at h3; cases h3
      · exact d u p' (by omega) h2 h3
    | some q =>
      have er : exT nx p (n + 1) t E = exT nx p n (t + 1) (addE E q) := by rw [exT, e]
      rw [er]
      obtain ⟨x1, x2, x3, ⟨k, x4, x5⟩, -⟩ := addE_ok hE hd (hn t q (by omega) e)
      obtain ⟨a, b, c, d⟩ := ih (t + 1) (addE E q) (by omega) x1 x2
      refine ⟨a, b, x3.tr c, fun u p' h1 h2 h3 => ?_⟩
      by_cases eu : u = t
      · subst eu
        rw [e] at h3
        have : q = p' := Option.some.inj h3
        subst this
        exact ⟨k, by have := c.1; omega, (c.2 k x4).trans x5⟩
      · exact d u p' (by omega) h2 h3
/-- an outcome -/
def GOt (p : Pnt) : Prop := VP p.1 ∧ p.2 < 4096 ∧ ∀ t, t < 3 → sT p.2 t < 4
theorem mkO_good {p : Pnt} (h : VP p.1) (hq : p.2 < 4096) : GOt (mkO p) := by
  obtain ⟨a, b⟩ := om_s p.2 hq
  refine ⟨h, a, fun t ht => ?_⟩
  show sT (om p.2) t < 4
  rw [b t ht]; omega
/-- what holds while exploring -/
def XI (G : Prg) (T : Nat) (v0 : Row) (a0 : Nat) (z : Nat → Bool) (s0 : Nat → Nat) (k : Nat) (E O : EX) : Prop := (∀ i, i < E.2 → GPt G T v0 a0 z s0 (E.1 i)) ∧ Dst E ∧ (∀ i, i < O.2 → GOt (O.1 i)) ∧ Dst O ∧ O.2 ≤ k ∧ k ≤ E.2 ∧ 0 < E.2 ∧ ∀ i, i < k → (∀ t p', t < T → nxP G T v0 (E.1 i) t = some p' → ∃ j, j < E.2 ∧ E.1 j = p') ∧ ((∀ t, t < T → nxP G T v0 (E.1 i) t = none) → ∃ j, j < O.2 ∧ O.1 j = mkO (E.1 i))
theorem XI_few {G : Prg} {T a0 : Nat} {N : Nat → Nat} {D : Nat → Nat → Nat} {v0 : Row} {z : Nat → Bool} {s0 : Nat → Nat} {E : EX} (hS : SchOK G T N D v0 z s0) (h1 : ∀ i, i < E.2 → GPt G T v0 a0 z s0 (E.1 i)) (h2 : Dst E) : E.2 ≤ 1359 :=
  few (fun t ht => (hS.2.2.2.1 t ht).1) (fun i hi => (h1 i hi).2.2) (fun i hi => (h1 i hi).2.1) h2
theorem XI_next {G : Prg} {T a0 k : Nat} {N : Nat → Nat} {D : Nat → Nat → Nat} {v0 : Row} {z : Nat → Bool} {s0 : Nat → Nat} {E O : EX} (hS : SchOK G T N D v0 z s0) (h : XI G T v0 a0 z s0 k E O) (hk : k < E.2) : XI G T v0 a0 z s0 (k + 1) (exT (nxP G T v0) (E.1 k) T 0 E) (cif (∀ t, t < T → nxP G T v0 (E.1 k) t = none) (addE O (mkO (E.1 k))) O) := by
  obtain ⟨h1, h2, h3, h4, h5, h6, h7, h8⟩ := h
  obtain ⟨a, b, c, d⟩ := exT_ok (P := GPt G T v0 a0 z s0) (nx := nxP G T v0) (p := E.1 k) (T := T) (fun t p' ht e => nxP_good hS ht (h1 k hk) e) T 0 E (by omega) h1 h2
  obtain ⟨o1, o2, o3, o4, o5⟩ := addE_ok (P := GOt) h3 h4 (mkO_good (h1 k hk).1 (h1 k hk).2.1)
  have ho : ∀ O' : EX, O' = cif (∀ t, t < T → nxP G T v0 (E.1 k) t = none) (addE O (mkO (E.1 k))) O → (∀ i, i < O'.2 → GOt (O'.1 i)) ∧ Dst O' ∧ O'.2 ≤ k + 1 ∧ Sub O O' ∧ ((∀ t, t < T → nxP G T v0 (E.1 k) t = none) → ∃ j, j < O'.2 ∧ O'.1 j = mkO (E.1 k)) := by
    intro O' e
    by_cases cc : ∀ t, t < T → nxP G T v0 (E.1 k) t = none
    · rw [cif_t cc] at e; subst e
      exact ⟨o1, o2, by omega, o3, fun _ => o4⟩
    · rw [cif_f cc] at e; subst e
      exact ⟨h3, h4, by omega, ⟨Nat.le_refl _, fun _ _ => rfl⟩, fun y => absurd y cc⟩
  obtain ⟨p1, p2, p3, p4, p5⟩ := ho _ rfl
  have := c.1
  refine ⟨a, b, p1, p2, p3, by omega, by omega, fun i hi => ?_⟩
  by_cases e : i = k
  · subst e
    rw [c.2 i hk]
    exact ⟨fun t p' ht hn => d t p' (Nat.zero_le _) ht hn, p5⟩
  · obtain ⟨y1, y2⟩ := h8 i (by omega)
    rw [c.2 i (by omega)]
    refine ⟨fun t p' ht hn => ?_, fun hn => ?_⟩
    · obtain ⟨j, j1, j2⟩ := y1 t p' ht hn
      exact ⟨j, by omega, (c.2 j j1).trans j2⟩
    · obtain ⟨j, j1, j2⟩ := y2 hn
      exact ⟨j, by have := p4.1; omega, (p4.2 j j1).trans j2⟩
theorem exO_s {nx : Pnt → Nat → Option Pnt} {T f k : Nat} {E O : EX} : exO nx T (f + 1) k E O = cif (k < E.2) (exO nx T f (k + 1) (exT nx (E.1 k) T 0 E) (cif (∀ t, t < T → nx (E.1 k) t = none) (addE O (mkO (E.1 k))) O)) (E, O) := rfl
theorem exO_end {G : Prg} {T a0 : Nat} {N : Nat → Nat} {D : Nat → Nat → Nat} {v0 : Row} {z : Nat → Bool} {s0 : Nat → Nat} (hS : SchOK G T N D v0 z s0) : ∀ (f k : Nat) (E O : EX), k + f = 1360 → XI G T v0 a0 z s0 k E O → XI G T v0 a0 z s0 (exO (nxP G T v0) T f k E O).1.2 (exO (nxP G T v0) T f k E O).1 (exO (nxP G T v0) T f k E O).2 := by
  intro f
  induction f with
  | zero =>
    intro k E O hk h
    have := XI_few hS h.1 h.2.1
    have := h.2.2.2.2.2.1
    omega
  | succ f ih =>
    intro k E O hk h
    rw [exO_s]
    by_cases c : k < E.2
    · rw [cif_t c]
      exact ih (k + 1) _ _ (by omega) (XI_next hS h c)
    · rw [cif_f c]
      have : k = E.2 := by have := h.2.2.2.2.2.1; omega
      subst this
      exact h
/-- some schedule ends -/
theorem some_end {G : Prg} {T a0 : Nat} {N : Nat → Nat} {D : Nat → Nat → Nat} {v0 : Row} {z : Nat → Bool} {s0 : Nat → Nat} {E O : EX} (hS : SchOK G T N D v0 z s0) (h : XI G T v0 a0 z s0 E.2 E O) : 0 < O.2 := by
  obtain ⟨h1, h2, h3, h4, h5, h6, h7, h8⟩ := h
  have : ∀ (μ i : Nat), i < E.2 → mea (E.1 i).2 ≤ μ → 0 < O.2 := by
    intro μ
    induction μ with
    | zero =>
      intro i hi hm
      obtain ⟨y1, y2⟩ := h8 i hi
      by_cases c : ∀ t, t < T → nxP G T v0 (E.1 i) t = none
      · obtain ⟨j, j1, -⟩ := y2 c; omega
      · exfalso
        apply c
        intro t ht
        cases e : nxP G T v0 (E.1 i) t with
        | none => rfl
        | some p' => have := nxP_less (by have := hS.1; omega) e; omega
    | succ μ ih =>
      intro i hi hm
      obtain ⟨y1, y2⟩ := h8 i hi
      by_cases c : ∀ t, t < T → nxP G T v0 (E.1 i) t = none
      · obtain ⟨j, j1, -⟩ := y2 c; omega
      · have : ∃ t p', t < T ∧ nxP G T v0 (E.1 i) t = some p' := by
          refine Classical.byContradiction fun y => c fun t ht => ?_
          cases e : nxP G T v0 (E.1 i) t with
          | none => rfl
          | some p' => exact absurd ⟨t, p', ht, e⟩ y
        obtain ⟨t, p', ht, e⟩ := this
        obtain ⟨j, j1, j2⟩ := y1 t p' ht e
        have := nxP_less (by have := hS.1; omega) e
        exact ih j j1 (by rw [j2]; omega)
  exact this _ 0 h7 (Nat.le_refl _)
