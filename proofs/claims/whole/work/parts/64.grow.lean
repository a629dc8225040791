/-! what growing does, place by place -/
def Woken (v : Row) (c s : Nat) : Prop := v (rAt s) = 1 ∧ ¬ v (rAt s + 3 + c) ≤ 0
theorem rGrow_lo {v : Row} {c T i : Nat} (h : i < 25) : rGrow v c T i = if i = 6 + c then v i + 1 else v i := by
  by_cases e : i = 6 + c
  · rw [if_pos e]
    induction T with
    | zero => show upd v _ _ i = _; rw [e, upd_same]
    | succ T ih => unfold rGrow; rw [rWake_out (by unfold rAt; omega)]; exact ih
  · rw [if_neg e]; exact rGrow_out h e
theorem rGrow_off {v : Row} {c T s j : Nat} (hc : c < 6) (h : ¬ (s < T ∧ Woken v c s)) (hj : j < 49) : rGrow v c T (rAt s + j) = v (rAt s + j) := by
  induction T with
  | zero => exact upd_ne _ _ (by unfold rAt; omega)
  | succ T ih =>
    unfold rGrow
    by_cases e : T = s
    · subst e
      have e0 : ∀ j, j < 49 → rGrow v c T (rAt T + j) = v (rAt T + j) := fun j _ => rGrow_thread hc (Nat.le_refl _) (by omega)
      have : ¬ (rGrow v c T (rAt T) = 1 ∧ ¬ rGrow v c T (rAt T + 3 + c) ≤ 0) := by
        have a := e0 0 (by omega)
        have b := e0 (3 + c) (by omega)
        rw [show rAt T + (3 + c) = rAt T + 3 + c by omega] at b
        rw [show rAt T + 0 = rAt T from rfl] at a
        rw [a, b]
        exact fun z => h ⟨by omega, z⟩
      unfold rWake
      rw [if_neg this]
      exact e0 j hj
    · rw [rWake_out (by unfold rAt; omega)]
      exact ih (fun z => h ⟨by omega, z.2⟩)
theorem rRestart_spec {v : Row} {s j : Nat} (hj : j < 49) : rRestart v s (rAt s + j) = if j = 48 then v (rAt s + 48) + 1 else if j = 47 then v (rAt s + 47) else 0 := by
  have y48 : rStop v s 0 (rAt s + 48) = v (rAt s + 48) := rStop_out (by omega)
  by_cases h8 : j = 48
  · subst h8
    rw [if_pos rfl]
    unfold rRestart
    rw [upd_same, y48]
  · rw [if_neg h8]
    by_cases h7 : j = 47
    · subst h7
      rw [if_pos rfl]
      unfold rRestart
      rw [upd_ne _ _ (by omega), rStop_out (by omega)]
    · rw [if_neg h7]
      by_cases h0 : j = 0
      · subst h0
        unfold rRestart rStop
        rw [upd_ne _ _ (by omega)]
        exact upd_same _ _ _
      · exact rRestart_mid (by omega) (by omega)
theorem rGrow_on {v : Row} {c T s j : Nat} (hc : c < 6) (hs : s < T) (h : Woken v c s) (hj : j < 49) : rGrow v c T (rAt s + j) = if j = 48 then v (rAt s + 48) + 1 else if j = 47 then v (rAt s + 47) else 0 := by
  induction T with
  | zero => omega
  | succ T ih =>
    unfold rGrow
    by_cases e : T = s
    · subst e
      have e0 : ∀ j, j < 49 → rGrow v c T (rAt T + j) = v (rAt T + j) := fun j _ => rGrow_thread hc (Nat.le_refl _) (by omega)
      have : (rGrow v c T (rAt T) = 1 ∧ ¬ rGrow v c T (rAt T + 3 + c) ≤ 0) := by
        have a := e0 0 (by omega)
        have b := e0 (3 + c) (by omega)
        rw [show rAt T + (3 + c) = rAt T + 3 + c by omega] at b
        rw [show rAt T + 0 = rAt T from rfl] at a
        rw [a, b]
        exact h
      unfold rWake
      rw [if_pos this, rRestart_spec hj, e0 48 (by omega), e0 47 (by omega)]
    · rw [rWake_out (by unfold rAt; omega)]
      exact ih (by omega)
/-- every place is a head place or one of a thread -/
theorem zones {P : Nat → Prop} (h1 : ∀ i, i < 25 → P i) (h2 : ∀ s j, j < 49 → P (rAt s + j)) : ∀ i, P i := by
  intro i
  by_cases h : i < 25
  · exact h1 i h
  · have := h2 ((i - 25) / 49) ((i - 25) % 49) (Nat.mod_lt _ (by decide))
    have e : rAt ((i - 25) / 49) + (i - 25) % 49 = i := by unfold rAt; omega
    rw [e] at this
    exact this
/-- ending a transaction -/
def rEnd (u : Row) (t : Nat) (how r : Int32) : Row := upd (rStop u t how) (rAt t + 47) r
theorem rEnd_out {u : Row} {t i : Nat} {how r : Int32} (h : i < rAt t ∨ rAt t + 48 ≤ i) : rEnd u t how r i = u i := by
  unfold rEnd; rw [upd_ne _ _ (by omega), rStop_out (by omega)]
theorem rEnd_in {u u' : Row} {t j : Nat} {how r : Int32} (h : j < 48) : rEnd u t how r (rAt t + j) = rEnd u' t how r (rAt t + j) := by
  unfold rEnd rStop rBegin
  simp only [upd]
  (repeat' split) <;> first | rfl | (exfalso; omega)
theorem rEnd_0 {u : Row} {t : Nat} {how r : Int32} : rEnd u t how r (rAt t) = how := by
  unfold rEnd rStop; rw [upd_ne _ _ (by omega), upd_same]
theorem rEnd_grow {u : Row} {t c T : Nat} {how r : Int32} (hc : c < 6) (hu : ¬ u (rAt t) = 1) (hh : ¬ how = 1) : rGrow (rEnd u t how r) c T = rEnd (rGrow u c T) t how r := by
  funext i
  refine zones (P := fun i => rGrow (rEnd u t how r) c T i = rEnd (rGrow u c T) t how r i) (fun i hi => ?_) (fun s j hj => ?_) i
  · have hr : rAt t = 25 + 49 * t := rfl
    rw [rGrow_lo hi, rEnd_out (by omega), rEnd_out (by omega), rGrow_lo hi]
  · by_cases es : s = t
    · subst es
      rw [rGrow_off hc (fun z => hh (by rw [← rEnd_0 (u := u) (t := s) (how := how) (r := r)]; exact z.2.1)) hj]
      by_cases h8 : j < 48
      · exact rEnd_in h8
      · rw [rEnd_out (by omega), rEnd_out (by omega), rGrow_off hc (fun z => hu z.2.1) hj]
    · have eo : ∀ (x : Row) j, j < 49 → rEnd x t how r (rAt s + j) = x (rAt s + j) := fun x j hj => rEnd_out (by unfold rAt; omega)
      have e3 : rEnd u t how r (rAt s + 3 + c) = u (rAt s + 3 + c) := by
        have := eo u (3 + c) (by omega)
        rw [show rAt s + (3 + c) = rAt s + 3 + c by omega] at this
        exact this
      have ew : Woken (rEnd u t how r) c s ↔ Woken u c s := by
        unfold Woken
        rw [e3, show rAt s = rAt s + 0 from rfl, eo u 0 (by omega)]
      rw [eo _ j hj]
      by_cases h : s < T ∧ Woken u c s
      · rw [rGrow_on hc h.1 h.2 hj, rGrow_on hc h.1 (ew.mpr h.2) hj, eo _ 48 (by omega), eo _ 47 (by omega)]
      · rw [rGrow_off hc h hj, rGrow_off hc (fun z => h ⟨z.1, ew.mp z.2⟩) hj, eo _ j hj]
/-- the cells' values stand apart -/
theorem rGrow_val {u u' : Row} {c T n : Nat} (hc : c < 6) (hn : n ≤ 6) (h : ∀ i, n ≤ i → u' i = u i) : ∀ i, rGrow u' c T i = if i < n then u' i else rGrow u c T i := by
  refine zones (fun i hi => ?_) (fun s j hj => ?_)
  · rw [rGrow_lo hi, rGrow_lo hi]
    by_cases e : i < n
    · rw [if_pos e, if_neg (by omega)]
    · rw [if_neg e, h i (by omega)]
  · have hr : rAt s = 25 + 49 * s := rfl
    rw [if_neg (by omega)]
    have ew : Woken u' c s ↔ Woken u c s := by
      unfold Woken
      rw [h _ (by omega), h _ (by omega)]
    by_cases hw : s < T ∧ Woken u c s
    · rw [rGrow_on hc hw.1 hw.2 hj, rGrow_on hc hw.1 (ew.mpr hw.2) hj, h _ (by omega), h _ (by omega)]
    · rw [rGrow_off hc hw hj, rGrow_off hc (fun z => hw ⟨z.1, ew.mp z.2⟩) hj, h _ (by omega)]
/-- the class stores cell by cell -/
noncomputable def rSt (v : Row) (t T : Nat) : Nat → Row
  | 0 => v
  | c + 1 => cif (bitSet (v (rAt t + 9)) c) (rGrow (upd (rSt v t T c) c (v (rAt t + 10 + c))) c T) (rSt v t T c)
theorem rGrows_val {u : Row} {W : Int32} {T j i : Nat} (hj : j ≤ 6) (hi : i < 6) : rGrows W T u j i = u i := by
  induction j with
  | zero => rfl
  | succ j ih =>
    have := ih (by omega)
    unfold rGrows
    by_cases hb : bitSet W j
    · rw [if_pos hb, rGrow_lo (by omega), if_neg (by omega)]; exact this
    · rw [if_neg hb]; exact this
theorem rGrows_apart {u u' : Row} {W : Int32} {T j n : Nat} (hj : j ≤ 6) (hn : n ≤ 6) (h : ∀ i, n ≤ i → u' i = u i) : ∀ i, rGrows W T u' j i = if i < n then u' i else rGrows W T u j i := by
  induction j with
  | zero => intro i; show u' i = if i < n then u' i else u i; by_cases e : i < n; rw [if_pos e]; rw [if_neg e, h i (by omega)]
  | succ j ih =>
    have ih := ih (by omega)
    intro i
    unfold rGrows
    by_cases hb : bitSet W j
    · rw [if_pos hb, if_pos hb, rGrow_val (u := rGrows W T u j) (n := n) (by omega) hn (fun i hi => by rw [ih i, if_neg (by omega)])]
      by_cases e : i < n
      · rw [if_pos e, if_pos e, ih i, if_pos e]
      · rw [if_neg e, if_neg e]
    · rw [if_neg hb, if_neg hb]; exact ih i
theorem rSt_eq {v : Row} {t T j : Nat} (hj : j ≤ 6) : ∀ i, rSt v t T j i = if i < j then rSees v t i else rGrows (v (rAt t + 9)) T v j i := by
  induction j with
  | zero => intro i; rfl
  | succ j ih =>
    have ih := ih (by omega)
    intro i
    unfold rSt rGrows
    by_cases hb : bitSet (v (rAt t + 9)) j
    · rw [cif_t hb, if_pos hb, rGrow_val (u := rGrows (v (rAt t + 9)) T v j) (n := j + 1) (by omega) (by omega) (fun i hi => by rw [upd_ne _ _ (by omega), ih i, if_neg (by omega)])]
      by_cases e : i < j + 1
      · rw [if_pos e, if_pos e]
        by_cases e2 : i = j
        · subst e2; rw [upd_same, rSees_in hb]
        · rw [upd_ne _ _ e2, ih i, if_pos (by omega)]
      · rw [if_neg e, if_neg e]
    · rw [cif_f hb, if_neg hb, ih i]
      by_cases e2 : i = j
      · subst e2; rw [if_neg (by omega), if_pos (by omega), rSees_out hb, rGrows_val (by omega) (by omega)]
      · by_cases e : i < j
        · rw [if_pos e, if_pos (by omega)]
        · rw [if_neg e, if_neg (by omega)]
theorem rGrows_state {u : Row} {W : Int32} {T t j k : Nat} (hj : j ≤ 6) (hk : k < 49) (h : ¬ u (rAt t) = 1) : rGrows W T u j (rAt t + k) = u (rAt t + k) := by
  induction j generalizing k with
  | zero => rfl
  | succ j ih =>
    unfold rGrows
    by_cases hb : bitSet W j
    · rw [if_pos hb, rGrow_off (by omega) (fun z => h (by have := ih (k := 0) (by omega) (by omega); rw [show rAt t + 0 = rAt t from rfl] at this; rw [← this]; exact z.2.1)) hk]; exact ih (by omega) hk
    · rw [if_neg hb]; exact ih (by omega) hk
theorem rEnd_grows {u : Row} {W : Int32} {t T j : Nat} {how r : Int32} (hj : j ≤ 6) (hu : ¬ u (rAt t) = 1) (hh : ¬ how = 1) : rGrows W T (rEnd u t how r) j = rEnd (rGrows W T u j) t how r := by
  induction j with
  | zero => rfl
  | succ j ih =>
    have ih := ih (by omega)
    unfold rGrows
    by_cases hb : bitSet W j
    · rw [if_pos hb, if_pos hb, ih, rEnd_grow (by omega) (by have := rGrows_state (W := W) (T := T) (k := 0) (by omega : j ≤ 6) (by omega) hu; rw [show rAt t + 0 = rAt t from rfl] at this; rw [this]; exact hu) hh]
    · rw [if_neg hb, if_neg hb, ih]
/-- the two ways to commit end alike -/
theorem rDone_eq {v : Row} {t T : Nat} (hv : v (rAt t) = 0) : rDone v t T = rEnd (rSt v t T 6) t (if rRuns v t = 0 then 2 else 0) (rRuns v t) := by
  have hr : rAt t = 25 + 49 * t := rfl
  have hh : ¬ (if rRuns v t = 0 then (2 : Int32) else 0) = 1 := by split <;> decide
  have e1 : rAfter v t = rEnd (rPut v t 6) t (if rRuns v t = 0 then 2 else 0) (rRuns v t) := rfl
  have ep : rPut v t 6 (rAt t) = v (rAt t) := if_neg (by omega)
  unfold rDone
  rw [e1, rEnd_grows (by omega) (by rw [ep, hv]; decide) hh]
  congr 1
  funext i
  rw [rGrows_apart (u := v) (u' := rPut v t 6) (n := 6) (by omega) (by omega) (fun i hi => if_neg (by omega)), rSt_eq (by omega)]
  by_cases e : i < 6
  · rw [if_pos e, if_pos e]; exact if_pos e
  · rw [if_neg e, if_neg e]
