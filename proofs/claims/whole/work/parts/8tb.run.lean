/-! a transaction alone, from its first token to its end -/
noncomputable def fSolo (G : Prg) (T t : Nat) : Nat → Row → Int32 → Out
  | 0, v, w => (0, v, w)
  | n + 1, v, w => cif ((fStep G T v t w).1 = 0) (fSolo G T t n (fStep G T v t w).2.1 (fStep G T v t w).2.2) (fStep G T v t w)
def apart (t : Nat) (v u : Row) : Prop := ∀ i, (i < rAt t ∨ rAt t + 47 ≤ i) → u i = v i
theorem apart.tr {t : Nat} {v u x : Row} (h : apart t v u) (g : apart t u x) : apart t v x := fun i hi => (g i hi).trans (h i hi)
/-- how it ends -/
def Fate (T t : Nat) (v u : Row) (o : Out) : Prop := (o.1 = 1 ∧ o.2.1 = rDone u t T ∧ o.2.2 = u (rAt t + 9) ∧ apart t v u ∧ (∀ c, c < 6 → V (rSees u t c)) ∧ ∃ x : Nat, x < 64 ∧ u (rAt t + 9) = nI x) ∨ ((o.1 = 3 ∨ o.1 = 4) ∧ apart t v o.2.1)
theorem Fate.tr {T t : Nat} {v v1 u : Row} {o : Out} (h : apart t v v1) (g : Fate T t v1 u o) : Fate T t v u o := by
  rcases g with ⟨a, b, c, d, e⟩ | ⟨a, b⟩
  · exact Or.inl ⟨a, b, c, h.tr d, e⟩
  · exact Or.inr ⟨a, h.tr b⟩
theorem ls_invOK {t k : Nat} {v v' : Row} (hi : rInvs v k) (h : lsA t v v') : rInvOK v' t k ↔ rInvOK v t k := by
  obtain ⟨-, h4, hk⟩ := hi
  have e : ∀ i, i < k → (v' (13 + 3 * i + 2) ≤ rSees v' t (v' (13 + 3 * i)).toNatClampNeg + rSees v' t (v' (13 + 3 * i + 1)).toNatClampNeg ↔ v (13 + 3 * i + 2) ≤ rSees v t (v (13 + 3 * i)).toNatClampNeg + rSees v t (v (13 + 3 * i + 1)).toNatClampNeg) := by
    intro i hi
    obtain ⟨a, b, ha, hb, ea, eb⟩ := hk i hi
    have x : ∀ j, j < 3 → v' (13 + 3 * i + j) = v (13 + 3 * i + j) := fun j hj => h _ (Or.inr (Or.inl ⟨by omega, by omega⟩))
    have x0 := x 0 (by omega)
    rw [Nat.add_zero] at x0
    rw [x 2 (by omega), x 1 (by omega), x0, ea, eb, cl (by omega), cl (by omega), ls_sees ha h, ls_sees hb h]
  exact ⟨fun z i hi => (e i hi).mp (z i hi), fun z i hi => (e i hi).mpr (z i hi)⟩
theorem rStop_apart {t : Nat} {u : Row} {how : Int32} : apart t u (rStop u t how) := fun i hi => rStop_out hi
theorem ls_commit {G : Prg} {T t n p : Nat} {dp : Nat → Nat} {v v' : Row} {w w' : Int32} (h : SO G t n dp v p) (h' : SO G t n dp v' p) (hl : lsS t v v') : (fCommit T v t w).1 = (fCommit T v' t w').1 ∧ ¬ (fCommit T v t w).1 = 0 ∧ Fate T t v v (fCommit T v t w) ∧ Fate T t v' v' (fCommit T v' t w') := by
  obtain ⟨y1, y2⟩ := lsR_valid hl.2
  obtain ⟨k, hk⟩ := h.2.2.1
  have e12 : (v 12).toNatClampNeg = k := by rw [hk.1, cl (by have := hk.2.1; omega)]
  have e12' : (v' 12).toNatClampNeg = k := by rw [hl.1 12 (Or.inr (Or.inl ⟨by omega, by omega⟩)), e12]
  unfold fCommit
  rw [cif_t y1, cif_t y2, e12, e12']
  by_cases c : rInvOK v t k
  · rw [cif_t c, cif_t ((ls_invOK hk hl.1).mpr c)]
    refine ⟨rfl, (by show ¬ (1 : Int32) = 0; decide), Or.inl ⟨rfl, rfl, rfl, fun _ _ => rfl, fun d hd => TV_sees h.2.2.2.2.1 h.1 hd, h.2.2.2.2.1.2.1 9 (Or.inl rfl)⟩, Or.inl ⟨rfl, rfl, rfl, fun _ _ => rfl, fun d hd => TV_sees h'.2.2.2.2.1 h'.1 hd, h'.2.2.2.2.1.2.1 9 (Or.inl rfl)⟩⟩
  · rw [cif_f c, cif_f fun z => c ((ls_invOK hk hl.1).mp z)]
    exact ⟨rfl, (by show ¬ (4 : Int32) = 0; decide), Or.inr ⟨Or.inr rfl, rStop_apart⟩, Or.inr ⟨Or.inr rfl, rStop_apart⟩⟩
/-- one token that goes on -/
theorem SO_next {G : Prg} {t n p : Nat} {dp : Nat → Nat} {v u : Row} {w : Int32} (hs : PS G t n dp) (h : SO G t n dp v p) (hp : p < n) (e : fToken G v t w = (0, u, w)) : ∃ p', p < p' ∧ p' ≤ n ∧ SO G t n dp u p' ∧ apart t v u := by
  rcases tok_out (w := w) hs h.2.2.2 hp h.1 h.2.1 with ⟨u', e', ⟨p', q1, q2⟩, q3, q4⟩ | e' | e' | e'
  · rw [e] at e'
    have : u = u' := congrArg (fun o : Out => o.2.1) e'
    subst this
    obtain ⟨h1, h2, ⟨k, h3⟩, h4, h5, ⟨r, h6, h7, h8⟩, h9⟩ := h
    have hr : rAt t = 25 + 49 * t := rfl
    refine ⟨p', q1, q2.2.1, ⟨fun c hc => by rw [q4 c (by omega)]; exact h1 c hc, fun c hc => by rw [q4 _ (by omega)]; exact h2 c hc, ⟨k, rInvs_move h3 fun i i1 i2 => q4 i (by omega)⟩, q2, q3, ⟨r, h6, by rw [q4 _ (by omega)]; exact h7, by rw [q4 _ (by omega)]; exact h8⟩, by rw [q4 _ (by omega)]; exact h9⟩, fun i hi => q4 i (by omega)⟩
  · rw [e] at e'; exact absurd (congrArg (fun o : Out => o.1) e') (show ¬ (0 : Int32) = 3 by decide)
  · rw [e] at e'; exact absurd (congrArg (fun o : Out => o.1) e') (show ¬ (0 : Int32) = 2 by decide)
  · rw [e] at e'; exact absurd (congrArg (fun o : Out => o.1) e') (show ¬ (0 : Int32) = 4 by decide)
theorem fStep_tok {G : Prg} {T t n : Nat} {v : Row} {w : Int32} (hn : G 1025 t = nI n) (n6 : n < 60) (h0 : 0 < n) : fStep G T v t w = fAfter G T t (fToken G v t w) := by
  unfold fStep
  rw [cif_f]
  rw [hn]
  exact fun z => by have := (cmp_eq (a := n) (b := 0) (by omega) (by decide)).mp z; omega
theorem ls_run {G : Prg} {T t n : Nat} {dp : Nat → Nat} (hs : PS G t n dp) : ∀ (k p : Nat) (v v' : Row) (w w' : Int32), SO G t n dp v p → SO G t n dp v' p → lsS t v v' → (p < n ∨ n = 0) → n ≤ p + k →
    ∃ u u', lsS t u u' ∧ (fSolo G T t (k + 1) v w).1 = (fSolo G T t (k + 1) v' w').1 ∧ Fate T t v u (fSolo G T t (k + 1) v w) ∧ Fate T t v' u' (fSolo G T t (k + 1) v' w') := by
  intro k
  have hn := hs.2.1
  have n6 := hs.1
  have one : ∀ (f : Nat) (v : Row) (w : Int32), ¬ (fStep G T v t w).1 = 0 → fSolo G T t (f + 1) v w = fStep G T v t w := fun f v w h => cif_f h
  have zero : ∀ (f : Nat) (v u : Row) (w w1 : Int32), fStep G T v t w = (0, u, w1) → fSolo G T t (f + 1) v w = fSolo G T t f u w1 := fun f v u w w1 h => by
    rw [fSolo, h]; exact cif_t rfl
  have com : ∀ (p : Nat) (v v' u u' : Row) (w w' : Int32) (f : Nat), SO G t n dp u p → SO G t n dp u' p → lsS t u u' → apart t v u → apart t v' u' → fStep G T v t w = fCommit T u t w → fStep G T v' t w' = fCommit T u' t w' → ∃ u u', lsS t u u' ∧ (fSolo G T t (f + 1) v w).1 = (fSolo G T t (f + 1) v' w').1 ∧ Fate T t v u (fSolo G T t (f + 1) v w) ∧ Fate T t v' u' (fSolo G T t (f + 1) v' w') := by
    intro p v v' u u' w w' f h h' hl a a' e e'
    obtain ⟨c1, c2, c3, c4⟩ := ls_commit (T := T) (w := w) (w' := w') h h' hl
    rw [one f v w (by rw [e]; exact c2), one f v' w' (by rw [e', ← c1]; exact c2), e, e']
    exact ⟨u, u', hl, c1, Fate.tr a c3, Fate.tr a' c4⟩
  induction k with
  | zero =>
    intro p v v' w w' h h' hl hp hk
    have : n = 0 := by omega
    have hg : G 1025 t = 0 := by rw [hn, this]; rfl
    have pz : ∀ v : Row, SO G t n dp v p → ∀ w, fStep G T v t w = fCommit T v t w := fun v h w => by
      have hpp : p = 0 := by have := h.2.2.2.1.2.1; omega
      unfold fStep fAfter
      rw [cif_t hg, cif_t ⟨rfl, by show v (rAt t + 1) = _; rw [hg, h.2.2.2.1.1, hpp]; rfl⟩]
    exact com p v v' v v' w w' 0 h h' hl (fun _ _ => rfl) (fun _ _ => rfl) (pz v h w) (pz v' h' w')
  | succ k ih =>
    intro p v v' w w' h h' hl hp hk
    rcases Nat.eq_zero_or_pos n with z | z
    · have hg : G 1025 t = 0 := by rw [hn, z]; rfl
      have pz : ∀ v : Row, SO G t n dp v p → ∀ w, fStep G T v t w = fCommit T v t w := fun v h w => by
        have hpp : p = 0 := by have := h.2.2.2.1.2.1; omega
        unfold fStep fAfter
        rw [cif_t hg, cif_t ⟨rfl, by show v (rAt t + 1) = _; rw [hg, h.2.2.2.1.1, hpp]; rfl⟩]
      exact com p v v' v v' w w' (k + 1) h h' hl (fun _ _ => rfl) (fun _ _ => rfl) (pz v h w) (pz v' h' w')
    · have hpn : p < n := by omega
      have ef := fun v w => fStep_tok (T := T) (v := v) (w := w) hn n6 z
      have stop : ∀ (c : Int32) (x : Row → Row), (c = 3 ∨ c = 4) → (∀ y, apart t y (x y)) → fToken G v t w = (c, x v, w) → fToken G v' t w' = (c, x v', w') → ∃ u u', lsS t u u' ∧ (fSolo G T t (k + 1 + 1) v w).1 = (fSolo G T t (k + 1 + 1) v' w').1 ∧ Fate T t v u (fSolo G T t (k + 1 + 1) v w) ∧ Fate T t v' u' (fSolo G T t (k + 1 + 1) v' w') := by
        intro c x hc hx e e'
        have nc : ¬ c = 0 := by rcases hc with y | y <;> rw [y] <;> decide
        have s1 : fStep G T v t w = (c, x v, w) := by rw [ef, e]; unfold fAfter; exact cif_f (fun q => nc q.1)
        have s2 : fStep G T v' t w' = (c, x v', w') := by rw [ef, e']; unfold fAfter; exact cif_f (fun q => nc q.1)
        rw [one _ v w (by rw [s1]; exact nc), one _ v' w' (by rw [s2]; exact nc), s1, s2]
        exact ⟨v, v', hl, rfl, Or.inr ⟨hc, hx v⟩, Or.inr ⟨hc, hx v'⟩⟩
      rcases ls_token (w := w) (w' := w') hs h h' hl hpn with ⟨u, u', e, e', hu⟩ | ⟨e, e'⟩ | ⟨e, e'⟩
      · obtain ⟨p1, q1, q2, q3, q4⟩ := SO_next hs h hpn e
        obtain ⟨p2, r1, r2, r3, r4⟩ := SO_next hs h' hpn e'
        have ep : p2 = p1 := by
          have a := q3.2.2.2.1.1
          have b := r3.2.2.2.1.1
          rw [hu.1 _ (lsI_l (by omega)), a] at b
          exact ((cmp_eq (by omega) (by omega)).mp b).symm
        subst ep
        by_cases c : p2 < n
        · have s : ∀ (v u : Row) (w : Int32), SO G t n dp u p2 → fToken G v t w = (0, u, w) → fStep G T v t w = (0, u, w) := fun v u w hu e => by
            rw [ef, e]
            unfold fAfter
            refine cif_f fun q => ?_
            have := q.2
            simp only [hu.2.2.2.1.1, hn] at this
            have := (cmp_eq (by omega) (by omega)).mp this
            omega
          rw [zero _ v u w w (s v u w q3 e), zero _ v' u' w' w' (s v' u' w' r3 e')]
          obtain ⟨x, x', g1, g2, g3, g4⟩ := ih p2 u u' w w' q3 r3 hu (Or.inl c) (by omega)
          exact ⟨x, x', g1, g2, Fate.tr q4 g3, Fate.tr r4 g4⟩
        · have hpe : p2 = n := by omega
          have s : ∀ (v u : Row) (w : Int32), SO G t n dp u p2 → fToken G v t w = (0, u, w) → fStep G T v t w = fCommit T u t w := fun v u w hu e => by
            rw [ef, e]
            unfold fAfter
            rw [cif_t ⟨rfl, by simp only [hu.2.2.2.1.1, hn, hpe]⟩]
          exact com p2 v v' u u' w w' (k + 1) q3 r3 hu q4 r4 (s v u w q3 e) (s v' u' w' r3 e')
      · exact stop 3 (fun y => upd y (rAt t) 1) (Or.inl rfl) (fun y i hi => upd_ne _ _ (by omega)) e e'
      · exact stop 4 (fun y => rStop y t 3) (Or.inr rfl) (fun y => rStop_apart) e e'
/-- what a commit leaves -/
theorem rGrow_47 {v : Row} {c T s : Nat} (hc : c < 6) : rGrow v c T (rAt s + 47) = v (rAt s + 47) := by
  by_cases h : s < T ∧ Woken v c s
  · rw [rGrow_on hc h.1 h.2 (by omega), if_neg (by omega), if_pos rfl]
  · exact rGrow_off hc h (by omega)
theorem rGrows_47 {v : Row} {W : Int32} {T s : Nat} : ∀ {j : Nat}, j ≤ 6 → rGrows W T v j (rAt s + 47) = v (rAt s + 47) := by
  intro j
  induction j with
  | zero => intro _; rfl
  | succ j ih =>
    intro h
    unfold rGrows
    by_cases hb : bitSet W j
    · rw [if_pos hb, rGrow_47 (by omega)]; exact ih (by omega)
    · rw [if_neg hb]; exact ih (by omega)
noncomputable def rBit (W : Int32) (c : Nat) : Int32 := cif (bitSet W c) 1 0
theorem rGrows_ver {v : Row} {W : Int32} {T c : Nat} (hc : c < 6) : ∀ {j : Nat}, j ≤ 6 → rGrows W T v j (6 + c) = if c < j then v (6 + c) + rBit W c else v (6 + c) := by
  intro j
  induction j with
  | zero => intro _; rfl
  | succ j ih =>
    intro h
    have i1 := ih (by omega)
    unfold rGrows
    by_cases hb : bitSet W j
    · rw [if_pos hb, rGrow_lo (by omega), i1]
      by_cases e : c = j
      · subst e
        rw [if_pos rfl, if_neg (by omega), if_pos (by omega)]
        unfold rBit; rw [cif_t hb]
      · rw [if_neg (by omega)]
        by_cases e2 : c < j
        · rw [if_pos e2, if_pos (by omega)]
        · rw [if_neg e2, if_neg (by omega)]
    · rw [if_neg hb, i1]
      by_cases e : c = j
      · subst e
        rw [if_neg (by omega), if_pos (by omega)]
        unfold rBit; rw [cif_f hb]; exact (Int32.add_zero _).symm
      · by_cases e2 : c < j
        · rw [if_pos e2, if_pos (by omega)]
        · rw [if_neg e2, if_neg (by omega)]
theorem rAfter_out {u : Row} {t i : Nat} (h1 : 6 ≤ i) (h2 : i < rAt t ∨ rAt t + 48 ≤ i) : rAfter u t i = u i := by
  show rEnd (rPut u t 6) t _ _ i = _
  rw [rEnd_out h2]; exact if_neg (by omega)
theorem rDone_val {u : Row} {t T c : Nat} (hc : c < 6) : rDone u t T c = rSees u t c := by
  have hr : rAt t = 25 + 49 * t := rfl
  unfold rDone
  rw [rGrows_val (by omega) hc]
  show rEnd (rPut u t 6) t _ _ c = _
  rw [rEnd_out (by omega)]; exact if_pos hc
theorem rDone_ver {u : Row} {t T c : Nat} (hc : c < 6) : rDone u t T (6 + c) = u (6 + c) + rBit (u (rAt t + 9)) c := by
  have hr : rAt t = 25 + 49 * t := rfl
  unfold rDone
  rw [rGrows_ver hc (by omega), if_pos hc, rAfter_out (by omega) (by omega)]
theorem rDone_runs {u : Row} {t T s : Nat} : rDone u t T (rAt s + 47) = if s = t then u (rAt t + 47) - 1 else u (rAt s + 47) := by
  unfold rDone
  rw [rGrows_47 (by omega)]
  by_cases e : s = t
  · subst e; rw [if_pos rfl]; exact upd_same _ _ _
  · rw [if_neg e]; exact rAfter_out (by unfold rAt; omega) (by unfold rAt; omega)
