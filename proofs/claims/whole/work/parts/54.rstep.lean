/-! the reference's step as a function of the row; G: the rows of the programs (1025 tokens, 1026 letter, 1027 digit, 1028 bar, 1029 close) -/
noncomputable def cif {α : Type} (P : Prop) (a b : α) : α := @ite α P (Classical.propDecidable P) a b
theorem cif_t {α : Type} {P : Prop} {a b : α} (h : P) : cif P a b = a := if_pos h
theorem cif_f {α : Type} {P : Prop} {a b : α} (h : ¬ P) : cif P a b = b := if_neg h
abbrev Prg : Type := Nat → Nat → Int32
noncomputable def rFind (P : Nat → Prop) : Nat → Option Nat
  | 0 => none
  | k + 1 => cif (P k) (some k) (rFind P k)
theorem rFind_none {P : Nat → Prop} : ∀ {n : Nat}, (∀ k, k < n → ¬ P k) → rFind P n = none := by
  intro n
  induction n with
  | zero => intro _; rfl
  | succ n ih => intro h; exact (cif_f (h n (by omega))).trans (ih fun k hk => h k (by omega))
theorem rFind_some {P : Nat → Prop} : ∀ {n k : Nat}, k < n → P k → (∀ q, k < q → q < n → ¬ P q) → rFind P n = some k := by
  intro n
  induction n with
  | zero => intro k hk; omega
  | succ n ih =>
    intro k hk hp h
    by_cases e : k = n
    · subst e; exact cif_t hp
    · exact (cif_f (h n (by omega) (by omega))).trans (ih (by omega) hp fun q h1 h2 => h q h1 (by omega))
theorem rFind_spec {P : Nat → Prop} : ∀ {n k : Nat}, rFind P n = some k → k < n ∧ P k ∧ ∀ q, k < q → q < n → ¬ P q := by
  intro n
  induction n with
  | zero => intro k h; cases h
  | succ n ih =>
    intro k h
    by_cases hp : P n
    · rw [rFind, cif_t hp] at h
      cases h
      exact ⟨by omega, hp, fun q h1 h2 => by omega⟩
    · rw [rFind, cif_f hp] at h
      obtain ⟨h1, h2, h3⟩ := ih h
      refine ⟨by omega, h2, fun q h4 h5 => ?_⟩
      by_cases e : q = n
      · subst e; exact hp
      · exact h3 q h4 (by omega)
theorem rFind_no {P : Nat → Prop} : ∀ {n : Nat}, rFind P n = none → ∀ k, k < n → ¬ P k := by
  intro n
  induction n with
  | zero => intro _ k hk; omega
  | succ n ih =>
    intro h k hk
    by_cases hp : P n
    · rw [rFind, cif_t hp] at h; cases h
    · rw [rFind, cif_f hp] at h
      by_cases e : k = n
      · subst e; exact hp
      · exact ih h k (by omega)
/-- result, row, and the written bits of a commit -/
abbrev Out : Type := Int32 × Row × Int32
noncomputable def fCommit (T : Nat) (v : Row) (t : Nat) (w : Int32) : Out :=
  cif (rValid v t) (cif (rInvOK v t (v 12).toNatClampNeg) ((1 : Int32), rDone v t T, v (rAt t + 9)) ((4 : Int32), rStop v t 3, w)) ((2 : Int32), rRestart v t, w)
def canR (G : Prg) (v : Row) (t k : Nat) : Prop := G 1026 (60 * t + rTok v t k) = 40 ∧ v (rB t k + 1) = 0
def canX (G : Prg) (v : Row) (t k : Nat) : Prop := G 1026 (60 * t + rTok v t k) = 123
noncomputable def fRetry (G : Prg) (v : Row) (t : Nat) (w : Int32) : Out := match rFind (canR G v t) (v (rAt t + 16)).toNatClampNeg with
  | some k => (0, rRetryAt v t k (G 1028 (60 * t + rTok v t k)), w)
  | none => cif (rValid v t) ((3 : Int32), upd v (rAt t) 1, w) ((2 : Int32), rRestart v t, w)
noncomputable def fAband (G : Prg) (v : Row) (t : Nat) (w : Int32) : Out := match rFind (canX G v t) (v (rAt t + 16)).toNatClampNeg with
  | some k => (0, rAbandAt v t k (G 1029 (60 * t + rTok v t k)), w)
  | none => (4, rStop v t 3, w)
/-- the row behind a token that neither retries nor abandons -/
noncomputable def fPlain (G : Prg) (v : Row) (t p : Nat) (ℓ d : Int32) : Row :=
  if ℓ = 114 then rRead (rPos v t) t d.toNatClampNeg else if ℓ = 119 then rWr (rPos v t) t d.toNatClampNeg
  else if ℓ = 43 then upd (rPos v t) (rAt t + 2) (rClamp (v (rAt t + 2) + d)) else if ℓ = 45 then upd (rPos v t) (rAt t + 2) (rClamp (v (rAt t + 2) - d))
  else if ℓ = 40 ∨ ℓ = 123 then rOpenAt (rPos v t) t (v (rAt t + 16)).toNatClampNeg (nI p)
  else if ℓ = 41 ∨ ℓ = 125 then rPop (rPos v t) t else if ℓ = 124 then upd (rPop (rPos v t) t) (rAt t + 1) (G 1029 (60 * t + p) + 1) else rPos v t
noncomputable def fToken (G : Prg) (v : Row) (t : Nat) (w : Int32) : Out :=
  cif (G 1026 (60 * t + (v (rAt t + 1)).toNatClampNeg) = 33 ∨ (G 1026 (60 * t + (v (rAt t + 1)).toNatClampNeg) = 63 ∧ ¬ G 1027 (60 * t + (v (rAt t + 1)).toNatClampNeg) ≤ v (rAt t + 2))) (fRetry G v t w)
    (cif (G 1026 (60 * t + (v (rAt t + 1)).toNatClampNeg) = 120) (fAband G v t w) ((0 : Int32), fPlain G v t (v (rAt t + 1)).toNatClampNeg (G 1026 (60 * t + (v (rAt t + 1)).toNatClampNeg)) (G 1027 (60 * t + (v (rAt t + 1)).toNatClampNeg)), w))
noncomputable def fAfter (G : Prg) (T t : Nat) (o : Out) : Out := cif (o.1 = 0 ∧ o.2.1 (rAt t + 1) = G 1025 t) (fCommit T o.2.1 t o.2.2) o
noncomputable def fStep (G : Prg) (T : Nat) (v : Row) (t : Nat) (w : Int32) : Out := fAfter G T t (cif (G 1025 t = 0) ((0 : Int32), v, w) (fToken G v t w))
/-- the programs in memory -/
def HasP (G : Prg) (m : ct_M) : Prop := ∀ k, 1025 ≤ k → k ≤ 1029 → m.1 k = G k
/-- what a step of thread t needs of the row and the programs -/
def StepOK (G : Prg) (T : Nat) (v : Row) (t : Nat) : Prop := t < 3 ∧ T ≤ 3 ∧ ∃ (n p k0 : Nat), n < 60 ∧ G 1025 t = nI n ∧ v (rAt t + 1) = nI p ∧ (p < n ∨ (n = 0 ∧ p = 0)) ∧ rBlocks v t k0 ∧
  (∀ q, q < n → (G 1026 (60 * t + q) = 33 ∨ G 1026 (60 * t + q) = 63 ∨ G 1026 (60 * t + q) = 120 ∨ (G 1026 (60 * t + q) = 114 ∧ ∃ c : Nat, c < 6 ∧ G 1027 (60 * t + q) = nI c) ∨ (G 1026 (60 * t + q) = 119 ∧ ∃ c : Nat, c < 6 ∧ G 1027 (60 * t + q) = nI c) ∨ G 1026 (60 * t + q) = 43 ∨ G 1026 (60 * t + q) = 45 ∨ G 1026 (60 * t + q) = 40 ∨ G 1026 (60 * t + q) = 123 ∨ G 1026 (60 * t + q) = 41 ∨ G 1026 (60 * t + q) = 125 ∨ G 1026 (60 * t + q) = 124)) ∧
  (0 < n → (G 1026 (60 * t + p) = 40 ∨ G 1026 (60 * t + p) = 123) → k0 < 3)
/-- what a row must hold for a commit -/
def ComOK (v : Row) : Prop := ∃ n : Nat, rInvs v n
theorem ct_st_self (m : ct_M) (a j : Nat) : ct_st m a j (m.1 a j) = m := by
  unfold ct_st
  refine Prod.ext ?_ rfl
  funext q i
  simp only [va_up, upd]
  split
  · rename_i h
    subst h
    simp only [upd]
    split
    · rename_i h
      rw [h]
    · rfl
  · rfl
theorem f_commit {A t T : Nat} {Q : Int32 → ct_M → Prop} {m : ct_M} (hA : ct_ln A = 172) (hA2 : 1029 < A) (hT : T ≤ 3) (ht : t < 3) (hth : m.1 1023 4 = nI T) (hi : ComOK (m.1 A))
    (h : Q (fCommit T (m.1 A) t (m.1 1023 29)).1 (pr (ct_st m 1023 29 (fCommit T (m.1 A) t (m.1 1023 29)).2.2) A (fCommit T (m.1 A) t (m.1 1023 29)).2.1)) : wp_X12_commit 1023 A (nI t) Q m := by
  obtain ⟨n, hi⟩ := hi
  have hn : (m.1 A 12).toNatClampNeg = n := by rw [hi.1, cl (by have := hi.2.1; omega)]
  refine r_commit hA (by omega) hT ht hth hi (fun hv => ?_) (fun hv hk => ?_) (fun hv hk => ?_)
  · unfold fCommit at h
    rw [cif_f hv] at h
    rw [ct_st_self] at h
    exact h
  · unfold fCommit at h
    rw [hn, cif_t hv, cif_f hk, ct_st_self] at h
    exact h
  · unfold fCommit at h
    rw [hn, cif_t hv, cif_t hk] at h
    exact h
theorem f_token {G : Prg} {A t T : Nat} {Q : Int32 → ct_M → Prop} {m : ct_M} (hA : ct_ln A = 172) (hA2 : 1029 < A) (hG : HasP G m) (hok : StepOK G T (m.1 A) t) (hn0 : ¬ G 1025 t = 0)
    (h : Q (fToken G (m.1 A) t (m.1 1023 29)).1 (pr m A (fToken G (m.1 A) t (m.1 1023 29)).2.1)) (hw : (fToken G (m.1 A) t (m.1 1023 29)).2.2 = m.1 1023 29 → True) : wp_X12_token 1023 A (nI t) Q m := by
  obtain ⟨ht, hT, n, p, k0, hn, hGn, hp, hpn, hb, hlet, hk3⟩ := hok
  have hp' : p < n := by
    rcases hpn with h | h
    · exact h
    · exfalso; apply hn0; rw [hGn, h.1]; rfl
  have hpc : (m.1 A (rAt t + 1)).toNatClampNeg = p := by rw [hp, cl (by omega)]
  have hoc : (m.1 A (rAt t + 16)).toNatClampNeg = k0 := by rw [hb.1, cl (by have := hb.2.1; omega)]
  have e26 : m.1 1026 (60 * t + p) = G 1026 (60 * t + p) := by rw [hG 1026 (by omega) (by omega)]
  have e27 : m.1 1027 (60 * t + p) = G 1027 (60 * t + p) := by rw [hG 1027 (by omega) (by omega)]
  have g26 := hG 1026 (by omega) (by omega)
  have g28 := hG 1028 (by omega) (by omega)
  have g29 := hG 1029 (by omega) (by omega)
  unfold fToken at h
  rw [hpc] at h
  have plain : ¬ (G 1026 (60 * t + p) = 33 ∨ (G 1026 (60 * t + p) = 63 ∧ ¬ G 1027 (60 * t + p) ≤ m.1 A (rAt t + 2))) → ¬ G 1026 (60 * t + p) = 120 → ∀ r : Row, fPlain G (m.1 A) t p (G 1026 (60 * t + p)) (G 1027 (60 * t + p)) = r → Q 0 (pr m A r) := by
    intro h1 h2 r hr
    rw [cif_f h1, cif_f h2] at h
    rw [← hr]
    exact h
  have hl := hlet p hp'
  generalize hℓ : G 1026 (60 * t + p) = ℓ at *
  generalize hd : G 1027 (60 * t + p) = d at *
  refine r_token hA hA2 ht (by omega) hp e26 e27 hb.1 (fun hr => ?_) (fun hx => ?_) (fun h1 h2 => ?_) (fun h1 => ?_) (fun h1 => ?_) (fun h1 => ?_) (fun h1 => ?_) (fun h1 => ?_) (fun h1 => ?_) (fun h1 => ?_) ?_
  · rw [cif_t hr] at h
    unfold fRetry at h
    rw [hoc] at h
    refine r_retry hA hA2 ht hb (fun k hk c1 c2 hno => ?_) (fun hno => ?_)
    · have e : rFind (canR G (m.1 A) t) k0 = some k := rFind_some hk ⟨by rw [← g26]; exact c1, c2⟩ (fun q q1 q2 z => hno q q1 q2 ⟨by rw [g26]; exact z.1, z.2⟩)
      rw [e] at h
      rw [g28]
      exact h
    · have e : rFind (canR G (m.1 A) t) k0 = none := rFind_none (fun q q2 z => hno q q2 ⟨by rw [g26]; exact z.1, z.2⟩)
      rw [e] at h
      refine ⟨fun hv => ?_, fun hv => ?_⟩
      · simp only [cif_t hv] at h; exact h
      · simp only [cif_f hv] at h; exact h
  · rw [cif_f (by rw [hx]; rintro (z | z); exact absurd z (by decide); exact absurd z.1 (by decide)), cif_t hx] at h
    unfold fAband at h
    rw [hoc] at h
    refine r_abandon hA hA2 ht hb (fun k hk c1 hno => ?_) (fun hno => ?_)
    · have e : rFind (canX G (m.1 A) t) k0 = some k := rFind_some hk (by show G 1026 _ = 123; rw [← g26]; exact c1) (fun q q1 q2 z => hno q q1 q2 (by rw [g26]; exact z))
      rw [e] at h
      rw [g29]
      exact h
    · have e : rFind (canX G (m.1 A) t) k0 = none := rFind_none (fun q q2 z => hno q q2 (by rw [g26]; exact z))
      rw [e] at h
      exact h
  · refine plain (by rw [h1]; rintro (z | z); exact absurd z (by decide); exact z.2 h2) (by rw [h1]; decide) _ ?_
    rw [h1]; rfl
  · obtain ⟨c, hc, hdc⟩ : ∃ c : Nat, c < 6 ∧ d = nI c := by
      rcases hl with z | z | z | z | z | z | z | z | z | z | z | z <;> first | exact z.2 | (exfalso; rw [h1] at z; exact absurd z (by decide)) | (exfalso; rw [h1] at z; exact absurd z.1 (by decide))
    refine ⟨c, hc, hdc, plain (by rw [h1]; rintro (z | z); exact absurd z (by decide); exact absurd z.1 (by decide)) (by rw [h1]; decide) _ ?_⟩
    rw [h1, hdc]
    unfold fPlain
    rw [if_pos rfl, cl (by omega)]
  · obtain ⟨c, hc, hdc⟩ : ∃ c : Nat, c < 6 ∧ d = nI c := by
      rcases hl with z | z | z | z | z | z | z | z | z | z | z | z <;> first | exact z.2 | (exfalso; rw [h1] at z; exact absurd z (by decide)) | (exfalso; rw [h1] at z; exact absurd z.1 (by decide))
    refine ⟨c, hc, hdc, plain (by rw [h1]; rintro (z | z); exact absurd z (by decide); exact absurd z.1 (by decide)) (by rw [h1]; decide) _ ?_⟩
    rw [h1, hdc]
    unfold fPlain
    rw [if_neg (by decide), if_pos rfl, cl (by omega)]
  · refine plain (by rw [h1]; rintro (z | z); exact absurd z (by decide); exact absurd z.1 (by decide)) (by rw [h1]; decide) _ ?_
    rw [h1]; rfl
  · refine plain (by rw [h1]; rintro (z | z); exact absurd z (by decide); exact absurd z.1 (by decide)) (by rw [h1]; decide) _ ?_
    rw [h1]; rfl
  · refine ⟨hk3 (by omega) h1, ?_⟩
    rcases h1 with h1 | h1
    · refine plain (by rw [h1]; rintro (z | z); exact absurd z (by decide); exact absurd z.1 (by decide)) (by rw [h1]; decide) _ ?_
      rw [h1]; unfold fPlain; rw [hoc]; rfl
    · refine plain (by rw [h1]; rintro (z | z); exact absurd z (by decide); exact absurd z.1 (by decide)) (by rw [h1]; decide) _ ?_
      rw [h1]; unfold fPlain; rw [hoc]; rfl
  · rcases h1 with h1 | h1
    · refine plain (by rw [h1]; rintro (z | z); exact absurd z (by decide); exact absurd z.1 (by decide)) (by rw [h1]; decide) _ ?_
      rw [h1]; rfl
    · refine plain (by rw [h1]; rintro (z | z); exact absurd z (by decide); exact absurd z.1 (by decide)) (by rw [h1]; decide) _ ?_
      rw [h1]; rfl
  · refine plain (by rw [h1]; rintro (z | z); exact absurd z (by decide); exact absurd z.1 (by decide)) (by rw [h1]; decide) _ ?_
    rw [h1, g29]; rfl
  · rcases hl with z | z | z | z | z | z | z | z | z | z | z | z <;> simp [z]
/-- THE REFERENCE'S STEP: what it answers and leaves is fStep of the row -/
theorem f_step {G : Prg} {A t T : Nat} {Q : Int32 → ct_M → Prop} {m : ct_M} (hA : ct_ln A = 172) (hA2 : 1029 < A) (hG : HasP G m) (hth : m.1 1023 4 = nI T) (hok : StepOK G T (m.1 A) t)
    (hc : (G 1025 t = 0 → ComOK (m.1 A)) ∧ (¬ G 1025 t = 0 → (fToken G (m.1 A) t (m.1 1023 29)).1 = 0 → ComOK (fToken G (m.1 A) t (m.1 1023 29)).2.1 ∧ ∃ q : Nat, q < 2 ^ 30 ∧ (fToken G (m.1 A) t (m.1 1023 29)).2.1 (rAt t + 1) = nI q))
    (h : Q (fStep G T (m.1 A) t (m.1 1023 29)).1 (pr (ct_st m 1023 29 (fStep G T (m.1 A) t (m.1 1023 29)).2.2) A (fStep G T (m.1 A) t (m.1 1023 29)).2.1)) : wp_X12_stepOn 1023 A (nI t) Q m := by
  obtain ⟨ht, hT, n, p, k0, hn, hGn, hp, hpn, hb, hlet, hk3⟩ := id hok
  have g25 : m.1 1025 t = nI n := by rw [hG 1025 (by omega) (by omega)]; exact hGn
  refine r_stepOn hA ht (by omega) g25 (fun e => ?_) (fun e => ?_)
  · have h0 : G 1025 t = 0 := by rw [hGn, e]; rfl
    have hp0 : m.1 A (rAt t + 1) = nI 0 := by
      rcases hpn with z | z
      · omega
      · rw [hp, z.2]
    refine ⟨hp0, f_commit hA hA2 hT ht hth (hc.1 h0) ?_⟩
    have e1 : fStep G T (m.1 A) t (m.1 1023 29) = fCommit T (m.1 A) t (m.1 1023 29) := by
      unfold fStep fAfter
      rw [cif_t h0, cif_t ⟨rfl, by show m.1 A (rAt t + 1) = _; rw [hp0, h0]; rfl⟩]
    rw [e1] at h
    exact h
  · have h0 : ¬ G 1025 t = 0 := by
      rw [hGn]
      exact fun z => by
        have := (cmp_eq (a := n) (b := 0) (by omega) (by decide)).mp z
        omega
    refine f_token hA hA2 hG hok h0 ?_ (fun _ => trivial)
    have hs : fStep G T (m.1 A) t (m.1 1023 29) = fAfter G T t (fToken G (m.1 A) t (m.1 1023 29)) := by
      unfold fStep; rw [cif_f h0]
    rw [hs] at h
    have hc2 := hc.2 h0
    have hw : (fToken G (m.1 A) t (m.1 1023 29)).2.2 = m.1 1023 29 := by
      unfold fToken
      by_cases c1 : (G 1026 (60 * t + (m.1 A (rAt t + 1)).toNatClampNeg) = 33 ∨ (G 1026 (60 * t + (m.1 A (rAt t + 1)).toNatClampNeg) = 63 ∧ ¬ G 1027 (60 * t + (m.1 A (rAt t + 1)).toNatClampNeg) ≤ m.1 A (rAt t + 2)))
      · rw [cif_t c1]
        unfold fRetry
        split
        · rfl
        · by_cases c2 : rValid (m.1 A) t
          · rw [cif_t c2]
          · rw [cif_f c2]
      · rw [cif_f c1]
        by_cases c2 : G 1026 (60 * t + (m.1 A (rAt t + 1)).toNatClampNeg) = 120
        · rw [cif_t c2]
          unfold fAband
          split <;> rfl
        · rw [cif_f c2]
    generalize fToken G (m.1 A) t (m.1 1023 29) = o at *
    obtain ⟨r, u, w⟩ := o
    simp only at h hc2 hw ⊢
    subst hw
    refine r_after hA ht (n := n) (by omega) (fun hr => ?_) (fun hr => ?_)
    · unfold fAfter at h
      rw [cif_f (fun z => hr z.1), ct_st_self] at h
      exact h
    · obtain ⟨hco, q, hq, hq2⟩ := hc2 hr
      refine ⟨q, hq, by rw [pr_at]; exact hq2, by rw [pr_ne _ _ (by omega)]; exact g25, fun e2 => ?_, fun e2 => ?_⟩
      · unfold fAfter at h
        rw [cif_f (fun z => e2 (by
          have := z.2
          simp only [hq2, hGn] at this
          exact (cmp_eq (by omega) (by omega)).mp this)), ct_st_self] at h
        rw [← hr]
        exact h
      · refine f_commit hA hA2 hT ht (by rw [pr_ne _ _ (by omega)]; exact hth) (by rw [pr_at]; exact hco) ?_
        unfold fAfter at h
        rw [cif_t ⟨hr, by simp only [hq2, hGn, e2]⟩] at h
        rw [pr_at, pr_ne m _ (by omega : (1023 : Nat) ≠ A)]
        have e3 : ∀ (x : Int32) (z : Row), pr (ct_st (pr m A u) 1023 29 x) A z = pr (ct_st m 1023 29 x) A z := by
          intro x z
          rw [pr_st, pr_ne m _ (by omega : (1023 : Nat) ≠ A), pr_comm m _ _ (by omega : A ≠ 1023), pr_pr]
          rfl
        rw [e3]
        exact h
