/-! the reference runs a transaction of a point -/
theorem r_stepS {G : Prg} {A t T n p : Nat} {dp : Nat → Nat} {Q : Int32 → ct_M → Prop} {m : ct_M} (hA : ct_ln A = 172) (hA2 : 1029 < A) (hG : HasP G m) (hT : T ≤ 3) (ht : t < 3) (hth : m.1 1023 4 = nI T) (hs : PS G t n dp) (hf : SO G t n dp (m.1 A) p) (hp : p < n ∨ n = 0)
    (h : Q (fStep G T (m.1 A) t (m.1 1023 29)).1 (pr (ct_st m 1023 29 (fStep G T (m.1 A) t (m.1 1023 29)).2.2) A (fStep G T (m.1 A) t (m.1 1023 29)).2.1)) : wp_X12_stepOn 1023 A (nI t) Q m := by
  obtain ⟨-, -, hi, h5, -⟩ := id hf
  have n6 := hs.1
  have d3 := hs.2.2.2.2.1 p h5.2.1
  refine f_step hA hA2 hG hth ⟨ht, hT, n, p, dp p, hs.1, hs.2.1, h5.1, ?_, ⟨h5.2.2.1, d3, fun k hk => ?_⟩, hs.2.2.1, fun hn hl => ?_⟩ ⟨fun _ => hi, fun hg e => ?_⟩ h
  · rcases hp with z | z
    · exact Or.inl z
    · exact Or.inr ⟨z, by have := h5.2.1; omega⟩
  · obtain ⟨q, c, hq, -, -, hqn, -⟩ := Op_facts hs (h5.2.2.2 k hk)
    exact ⟨q, by omega, hq⟩
  · exact (TP_open hs h5 (by omega) hl).1
  · have hpn : p < n := by
      rcases hp with z | z
      · exact z
      · exact absurd (by rw [hs.2.1, z]; rfl) hg
    generalize ho : fToken G (m.1 A) t (m.1 1023 29) = o at e
    obtain ⟨r, u, w⟩ := o
    have e : r = 0 := e
    subst e
    have ew : w = m.1 1023 29 := by
      rcases tok_out (w := m.1 1023 29) hs hf.2.2.2 hpn hf.1 hf.2.1 with ⟨u', e', -⟩ | e' | e' | e' <;> rw [ho] at e'
      · exact congrArg (fun o : Out => o.2.2) e'
      · exact congrArg (fun o : Out => o.2.2) e'
      · exact congrArg (fun o : Out => o.2.2) e'
      · exact congrArg (fun o : Out => o.2.2) e'
    subst ew
    obtain ⟨p', q1, q2, q3, -⟩ := SO_next hs hf hpn ho
    exact ⟨q3.2.2.1, p', by omega, q3.2.2.2.1.1⟩
theorem step_S {G : Prg} {T t n p : Nat} {dp : Nat → Nat} {v : Row} {w : Int32} (hs : PS G t n dp) (h : SO G t n dp v p) (hp : p < n ∨ n = 0) : (∃ u p', fStep G T v t w = (0, u, w) ∧ p < p' ∧ p' < n ∧ SO G t n dp u p') ∨ ¬ (fStep G T v t w).1 = 0 := by
  have hn := hs.2.1
  have n6 := hs.1
  have nf : ∀ u, ¬ (fCommit T u t w).1 = 0 := by
    intro u
    unfold fCommit
    by_cases c : rValid u t
    · rw [cif_t c]
      by_cases c2 : rInvOK u t (u 12).toNatClampNeg
      · rw [cif_t c2]; exact (by decide : ¬ (1 : Int32) = 0)
      · rw [cif_f c2]; exact (by decide : ¬ (4 : Int32) = 0)
    · rw [cif_f c]; exact (by decide : ¬ (2 : Int32) = 0)
  rcases Nat.eq_zero_or_pos n with z | z
  · right
    have hg : G 1025 t = 0 := by rw [hn, z]; rfl
    have hpp : p = 0 := by have := h.2.2.2.1.2.1; omega
    have e : fStep G T v t w = fCommit T v t w := by
      unfold fStep fAfter
      rw [cif_t hg, cif_t ⟨rfl, by show v (rAt t + 1) = _; rw [hg, h.2.2.2.1.1, hpp]; rfl⟩]
    rw [e]; exact nf v
  · have hpn : p < n := by omega
    have ef := fStep_tok (T := T) (v := v) (w := w) hn n6 z
    have st : ∀ (c : Int32) (x : Row), ¬ c = 0 → fToken G v t w = (c, x, w) → ¬ (fStep G T v t w).1 = 0 := by
      intro c x hc e
      rw [ef, e]
      unfold fAfter
      rw [cif_f (fun q => hc q.1)]; exact hc
    rcases tok_out (w := w) hs h.2.2.2 hpn h.1 h.2.1 with ⟨u, e, -⟩ | e | e | e
    · obtain ⟨p', q1, q2, q3, -⟩ := SO_next hs h hpn e
      by_cases c : p' < n
      · left
        refine ⟨u, p', ?_, q1, c, q3⟩
        rw [ef, e]
        unfold fAfter
        refine cif_f fun q => ?_
        have := q.2
        simp only [q3.2.2.2.1.1, hn] at this
        have := (cmp_eq (by omega) (by omega)).mp this
        omega
      · right
        have hpe : p' = n := by omega
        rw [ef, e]
        unfold fAfter
        rw [cif_t ⟨rfl, by simp only [q3.2.2.2.1.1, hn, hpe]⟩]
        exact nf u
    · exact Or.inr (st 3 _ (by decide) e)
    · exact Or.inr (st 2 _ (by decide) e)
    · exact Or.inr (st 4 _ (by decide) e)
theorem r_solo {G : Prg} {T t n : Nat} {dp : Nat → Nat} {b4 b5 : Int32} {Q : ct_M → Prop} {m : ct_M} (hT : T ≤ 3) (ht : t < 3) (hG : HasP G m) (hth : m.1 1023 4 = nI T) (hs : PS G t n dp) : ∀ (f p : Nat) (v : Row) (w : Int32), SO G t n dp v p → (p < n ∨ n = 0) → n ≤ p + f → wb_X12_schedule_146 Q 1 1023 (nI t) b4 b5 (fSolo G T t (f + 1) v w).1 (refC m (fSolo G T t (f + 1) v w).2.2 (fSolo G T t (f + 1) v w).2.1) → ¬ (fSolo G T t (f + 1) v w).1 = 0 → wb_X12_schedule_146 Q (f + 2) 1023 (nI t) b4 b5 0 (refC m w v) := by
  intro f
  induction f with
  | zero =>
    intro p v w h hp hk hQ h0
    unfold wb_X12_schedule_146
    refine ⟨fun y => absurd rfl y, fun _ => ?_⟩
    have g31 : (refC m w v).1 1031 = v := refC_31
    have g29 : (refC m w v).1 1023 29 = w := refC_w
    refine r_stepS (A := 1031) (by decide) (by decide) (fun k k1 k2 => by rw [refC_ne (by omega) (by omega)]; exact hG k k1 k2) hT ht (by rw [refC_23 (by decide)]; exact hth) hs (by rw [g31]; exact h) hp ?_
    rw [g31, g29, refC_refC]
    rcases step_S (T := T) (w := w) hs h hp with ⟨u, p', -, a, b, -⟩ | c
    · omega
    · have es : fSolo G T t (0 + 1) v w = fStep G T v t w := cif_f c
      rw [es] at hQ
      exact hQ
  | succ f ih =>
    intro p v w h hp hk hQ h0
    unfold wb_X12_schedule_146
    refine ⟨fun y => absurd rfl y, fun _ => ?_⟩
    have g31 : (refC m w v).1 1031 = v := refC_31
    have g29 : (refC m w v).1 1023 29 = w := refC_w
    refine r_stepS (A := 1031) (by decide) (by decide) (fun k k1 k2 => by rw [refC_ne (by omega) (by omega)]; exact hG k k1 k2) hT ht (by rw [refC_23 (by decide)]; exact hth) hs (by rw [g31]; exact h) hp ?_
    rw [g31, g29, refC_refC]
    rcases step_S (T := T) (w := w) hs h hp with ⟨u, p', e, a, b, c⟩ | c
    · have es : fSolo G T t (f + 1 + 1) v w = fSolo G T t (f + 1) u w := by
        rw [fSolo, e]; exact cif_t rfl
      rw [es] at hQ h0
      rw [e]
      exact ih p' u w c (Or.inl b) (by omega) hQ h0
    · have es : fSolo G T t (f + 1 + 1) v w = fStep G T v t w := cif_f c
      rw [es] at hQ
      unfold wb_X12_schedule_146 at hQ ⊢
      exact ⟨hQ.1, fun y => absurd y c⟩
noncomputable def kR (p : Pnt) : Int64 := lN (rcode p.1 p.2)
theorem rV_c {X X' : Nat → Nat} (h : ∀ c, c < 6 → X c = X' c) : rV X = rV X' := by
  unfold rV
  rw [h 0 (by omega), h 1 (by omega), h 2 (by omega), h 3 (by omega), h 4 (by omega), h 5 (by omega)]
theorem qS_c {s s' : Nat → Nat} (h : ∀ c, c < 3 → s c = s' c) : qS s = qS s' := by
  unfold qS
  rw [h 0 (by omega), h 1 (by omega), h 2 (by omega)]
theorem kR_inj {p p' : Pnt} (h : VP p.1) (h' : VP p'.1) (hq : p.2 < 4096) (hq' : p'.2 < 4096) (e : kR p = kR p') : p = p' := by
  unfold kR at e
  have l1 := rcode_lt h.2 hq
  have l2 := rcode_lt h'.2 hq'
  obtain ⟨a, b⟩ := rc_inj h.2 h'.2 hq hq' ((lN_inj (by omega) (by omega)).mp e)
  exact Prod.ext (a_ext h.1 h'.1 a) b
theorem kAdd_compR {E : EX} {p : Pnt} : kAdd (fun i => kR (E.1 i)) E.2 (kR p) = fun i => kR (kAdd E.1 E.2 p i) := by
  funext i
  unfold kAdd
  split <;> rfl
theorem RFr.rf {j c : Nat} {m : ct_M} : RFr j c m m := ⟨fun _ _ => rfl, fun _ _ => rfl, fun _ _ => rfl⟩
theorem r_addE {E : EX} {p : Pnt} {Q : ct_M → Prop} {m : ct_M} (hn : E.2 < 4096) (hK : RKey m 31 1045 E.2 (fun i => kR (E.1 i))) (hi : ∀ k, k < E.2 → kR (E.1 k) = kR p → E.1 k = p) (h : ∀ m', RFr 31 1045 m m' → RKey m' 31 1045 (addE E p).2 (fun i => kR ((addE E p).1 i)) → Q m') : wp_X12_addKey 1023 (kR p) Q m := by
  refine r_addKey hn hK (fun k hk e => ?_) (fun hno m' f g => h m' f ?_)
  · refine h m RFr.rf ?_
    rw [addE_in ⟨k, hk, hi k hk e⟩]; exact hK
  · rw [addE_out fun ⟨k, hk, e⟩ => hno k hk (by rw [e])]
    rw [kAdd_compR] at g
    exact g
theorem or_bit : ∀ B, B < 8 → ∀ t, t < 3 → nI B ||| ((1 : Int32) <<< (nI t &&& 31)) = nI (B ||| 2 ^ t) ∧ (B ||| 2 ^ t) < 8 ∧ ∀ u, u < 3 → (B ||| 2 ^ t) / 2 ^ u % 2 = (if u = t then 1 else B / 2 ^ u % 2) := by
  have h1 : ∀ B, B < 8 → ∀ t, t < 3 → nI B ||| ((1 : Int32) <<< (nI t &&& 31)) = nI (B ||| 2 ^ t) := by decide +kernel
  have h2 : ∀ B, B < 8 → ∀ t, t < 3 → (B ||| 2 ^ t) < 8 ∧ ∀ u, u < 3 → (B ||| 2 ^ t) / 2 ^ u % 2 = (if u = t then 1 else B / 2 ^ u % 2) := by decide +kernel
  exact fun B hB t ht => ⟨h1 B hB t ht, h2 B hB t ht⟩
theorem odd16 : ∀ k, k < 16 → ((nI k - nI k / (2 : Int32) * (2 : Int32) = 1 ↔ k % 2 = 1) ∧ (nI k / (2 : Int32) - nI k / (2 : Int32) / (2 : Int32) * (2 : Int32) = 1 ↔ k / 2 % 2 = 1) ∧ nI k / (4 : Int32) = nI (k / 4) ∧ (nI k - nI k / (4 : Int32) * (4 : Int32) = 0 ↔ k % 4 = 0)) := by decide +kernel
/-- bits of the first u threads -/
def bitsP (f : Nat → Nat) : Nat → Nat
  | 0 => 0
  | u + 1 => if f u = 1 then bitsP f u ||| 2 ^ u else bitsP f u
theorem bitsP_ok {f : Nat → Nat} : ∀ u, u ≤ 3 → bitsP f u < 8 ∧ ∀ t, t < 3 → bitsP f u / 2 ^ t % 2 = (if t < u ∧ f t = 1 then 1 else 0) := by
  intro u
  induction u with
  | zero =>
    intro _
    refine ⟨(by decide : (0 : Nat) < 8), fun t ht => ?_⟩
    rw [if_neg (by omega)]
    show 0 / 2 ^ t % 2 = 0
    rw [Nat.zero_div]
  | succ u ih =>
    intro hu
    obtain ⟨a, b⟩ := ih (by omega)
    show (if f u = 1 then bitsP f u ||| 2 ^ u else bitsP f u) < 8 ∧ ∀ t, t < 3 → (if f u = 1 then bitsP f u ||| 2 ^ u else bitsP f u) / 2 ^ t % 2 = _
    by_cases c : f u = 1
    · rw [if_pos c]
      obtain ⟨-, o2, o3⟩ := or_bit _ a u (by omega)
      refine ⟨o2, fun t ht => ?_⟩
      rw [o3 t ht, b t ht]
      by_cases e : t = u
      · subst e; rw [if_pos rfl, if_pos ⟨by omega, c⟩]
      · rw [if_neg e]
        by_cases e2 : t < u ∧ f t = 1
        · rw [if_pos e2, if_pos ⟨by omega, e2.2⟩]
        · rw [if_neg e2, if_neg fun y => e2 ⟨by omega, y.2⟩]
    · rw [if_neg c]
      refine ⟨a, fun t ht => ?_⟩
      rw [b t ht]
      by_cases e2 : t < u ∧ f t = 1
      · rw [if_pos e2, if_pos ⟨by omega, e2.2⟩]
      · rw [if_neg e2, if_neg fun y => e2 ⟨by
          refine Nat.lt_of_le_of_ne (by omega) fun z => c ?_
          rw [← z]; exact y.2, y.2⟩]
/-- what stays while the reference explores -/
def RC (m0 m : ct_M) : Prop := (∀ q, q ≠ 1023 → q ≠ 1031 → m.1 q = m0.1 q) ∧ (∀ j, j ≠ 29 → j ≠ 31 → j ≠ 33 → m.1 1023 j = m0.1 1023 j) ∧ ∀ q, q ≠ 1045 → q ≠ 1046 → m.2 q = m0.2 q
theorem RC.rf {m : ct_M} : RC m m := ⟨fun _ _ _ => rfl, fun _ _ _ _ => rfl, fun _ _ _ => rfl⟩
theorem RC.tr {m m' m'' : ct_M} (h : RC m m') (g : RC m' m'') : RC m m'' := ⟨fun q a b => (g.1 q a b).trans (h.1 q a b), fun j a b c => (g.2.1 j a b c).trans (h.2.1 j a b c), fun q a b => (g.2.2 q a b).trans (h.2.2 q a b)⟩
theorem RFr.C1 {m m' : ct_M} (h : RFr 31 1045 m m') : RC m m' := ⟨fun q a _ => h.1 q a, fun j _ b _ => h.2.1 j b, fun q a _ => h.2.2 q a⟩
theorem RFr.C3 {m m' : ct_M} (h : RFr 33 1046 m m') : RC m m' := ⟨fun q a _ => h.1 q a, fun j _ _ c => h.2.1 j c, fun q _ b => h.2.2 q b⟩
theorem RC.ref {m : ct_M} {w : Int32} {v : Row} : RC m (refC m w v) := ⟨fun q a b => refC_ne a b, fun j a _ _ => refC_23 a, fun _ _ _ => rfl⟩
theorem Cod_out {G : Prg} {T a0 : Nat} {v0 : Row} {p : Pnt} {t : Nat} (h : Cod G T v0 a0 (zOf T v0) (sOf T v0) p) (ht : T ≤ t) (ht3 : t < 3) : sT p.2 t = 0 := by
  have hz : zOf T v0 t = false := decide_eq_false fun y => by have := y.1; omega
  have hs : sOf T v0 t = 0 := if_neg (by omega)
  obtain ⟨w, -, -, hw⟩ := h
  have hr : rho (zOf T v0) (sOf T v0) t = 0 := by unfold rho; rw [hz, hs]; rfl
  rcases (hw t ht3).2 with ⟨-, y⟩ | ⟨y, -⟩
  · rw [y]; unfold bse; rw [hz]; rfl
  · omega
