/-! points, and the next point -/
theorem mem_codes {a b c x y z : Nat} {w : List Nat} (hw : w ∈ wordsN 6 a b c) (hx : x ∈ deltas (a - cntL 0 w)) (hy : y ∈ deltas (b - cntL 1 w)) (hz : z ∈ deltas (c - cntL 2 w)) : (w, x, y, z) ∈ codesN a b c :=
  List.mem_flatMap.mpr ⟨w, hw, List.mem_flatMap.mpr ⟨x, hx, List.mem_flatMap.mpr ⟨y, hy, List.mem_map.mpr ⟨z, hz, rfl⟩⟩⟩⟩
theorem pigeon : ∀ (n : Nat) (f : Nat → Pnt) (l : List Pnt), (∀ i, i < n → f i ∈ l) → (∀ i j, i < j → j < n → ¬ f i = f j) → n ≤ l.length := by
  intro n
  induction n with
  | zero => intro f l _ _; exact Nat.zero_le _
  | succ n ih =>
    intro f l hm hd
    have h1 := hm n (by omega)
    have h2 := ih f (l.erase (f n)) (fun i hi => (List.mem_erase_of_ne (hd i n hi (by omega))).mpr (hm i (by omega))) (fun i j hij hj => hd i j hij (by omega))
    rw [List.length_erase_of_mem h1] at h2
    have := List.length_pos_of_mem h1
    omega
/-- the values behind an order of commits -/
noncomputable def vW (G : Prg) (T : Nat) (v0 : Row) (a0 : Nat) : List Nat → Nat
  | [] => a0
  | t :: w => pk6 (txV G T v0 (dg (vW G T v0 a0 w)) t)
/-- runs that count at the start; what a thread is at where none are left -/
def rho (z : Nat → Bool) (s0 : Nat → Nat) (t : Nat) : Nat := if z t then 0 else s0 t / 4
def bse (z : Nat → Bool) (s0 : Nat → Nat) (t : Nat) : Nat := if z t then s0 t else 0
def Cod (G : Prg) (T : Nat) (v0 : Row) (a0 : Nat) (z : Nat → Bool) (s0 : Nat → Nat) (p : Pnt) : Prop := ∃ w : List Nat, p.1 = vW G T v0 a0 w ∧ (∀ u, u ∈ w → u < 3) ∧ ∀ t, t < 3 → cntL t w ≤ rho z s0 t ∧ ((rho z s0 t - cntL t w = 0 ∧ sT p.2 t = bse z s0 t) ∨ (0 < rho z s0 t - cntL t w ∧ ∃ δ, δ < 3 ∧ sT p.2 t = 4 * (rho z s0 t - cntL t w) + δ))
theorem mem_deltas {r δ : Nat} (h : δ < 3) (h0 : 0 < r) : δ ∈ deltas r := by
  unfold deltas
  rw [if_neg (by omega)]
  have : δ = 0 ∨ δ = 1 ∨ δ = 2 := by omega
  rcases this with e | e | e <;> subst e <;> simp
theorem mem_deltas0 {r : Nat} (h0 : r = 0) : 0 ∈ deltas r := by
  unfold deltas
  rw [if_pos h0]; exact List.mem_singleton.mpr rfl
noncomputable def unCode (G : Prg) (T : Nat) (v0 : Row) (a0 : Nat) (z : Nat → Bool) (s0 : Nat → Nat) (k : List Nat × Nat × Nat × Nat) : Pnt :=
  (vW G T v0 a0 k.1, qS fun t => if rho z s0 t - cntL t k.1 = 0 then bse z s0 t else 4 * (rho z s0 t - cntL t k.1) + (if t = 0 then k.2.1 else if t = 1 then k.2.2.1 else k.2.2.2))
theorem few {G : Prg} {T a0 : Nat} {v0 : Row} {z : Nat → Bool} {s0 : Nat → Nat} (hs : ∀ t, t < 3 → s0 t / 4 ≤ 2) {n : Nat} {f : Nat → Pnt} (hc : ∀ i, i < n → Cod G T v0 a0 z s0 (f i)) (hq : ∀ i, i < n → (f i).2 < 4096) (hd : ∀ i j, i < j → j < n → ¬ f i = f j) : n ≤ 1359 := by
  have hr : ∀ t, t < 3 → rho z s0 t < 3 := fun t ht => by
    have := hs t ht
    unfold rho; split <;> omega
  have h0 := hr 0 (by omega)
  have h1 := hr 1 (by omega)
  have h2 := hr 2 (by omega)
  have hl := codes_len _ h0 _ h1 _ h2
  have := pigeon n f ((codesN (rho z s0 0) (rho z s0 1) (rho z s0 2)).map (unCode G T v0 a0 z s0)) (fun i hi => ?_) hd
  · rw [List.length_map] at this
    omega
  · obtain ⟨w, e1, hu, hw⟩ := hc i hi
    have del : ∀ t, t < 3 → ∃ δ, δ ∈ deltas (rho z s0 t - cntL t w) ∧ sT (f i).2 t = if rho z s0 t - cntL t w = 0 then bse z s0 t else 4 * (rho z s0 t - cntL t w) + δ := by
      intro t ht
      rcases (hw t ht).2 with ⟨y1, y2⟩ | ⟨y1, δ, y2, y3⟩
      · exact ⟨0, mem_deltas0 y1, by rw [if_pos y1]; exact y2⟩
      · exact ⟨δ, mem_deltas y2 y1, by rw [if_neg (by omega)]; exact y3⟩
    obtain ⟨x, x1, x2⟩ := del 0 (by omega)
    obtain ⟨y, y1, y2⟩ := del 1 (by omega)
    obtain ⟨u, u1, u2⟩ := del 2 (by omega)
    refine List.mem_map.mpr ⟨(w, x, y, u), mem_codes (mem_words 6 _ _ _ w (by omega) hu (hw 0 (by omega)).1 (hw 1 (by omega)).1 (hw 2 (by omega)).1) x1 y1 u1, ?_⟩
    have e2 : qS (fun t => if rho z s0 t - cntL t w = 0 then bse z s0 t else 4 * (rho z s0 t - cntL t w) + (if t = 0 then x else if t = 1 then y else u)) = (f i).2 := by
      rw [← qS_sT (hq i hi)]
      unfold qS
      rw [x2, y2, u2]
      rfl
    unfold unCode
    exact Prod.ext e1.symm e2
/-! the next point -/
noncomputable def nxP (G : Prg) (T : Nat) (v0 : Row) (p : Pnt) (t : Nat) : Option Pnt :=
  if 4 ≤ sT p.2 t ∧ sT p.2 t % 4 = 0 then
    (if (txO G T v0 (dg p.1) t).1 = 1 then some (pk6 (txV G T v0 (dg p.1) t), qS (nxC (sT p.2) t (txO G T v0 (dg p.1) t).2.2.toNatClampNeg))
    else if (txO G T v0 (dg p.1) t).1 = 3 then some (p.1, qS (awSet (sT p.2) t (sT p.2 t + 1)))
    else some (p.1, qS (awSet (sT p.2) t (sT p.2 t + 2))))
  else none
def VP (a : Nat) : Prop := a < 281474976710656 ∧ ∀ c, c < 6 → dg a c ≤ 198
def GPt (G : Prg) (T : Nat) (v0 : Row) (a0 : Nat) (z : Nat → Bool) (s0 : Nat → Nat) (p : Pnt) : Prop := VP p.1 ∧ p.2 < 4096 ∧ Cod G T v0 a0 z s0 p
theorem VP_pk {Y : Nat → Nat} (h : ∀ c, c < 6 → Y c ≤ 198) : VP (pk6 Y) :=
  ⟨pk6_lt fun c hc => by have := h c hc; omega, fun c hc => by rw [dg_pk (fun c hc => by have := h c hc; omega) c hc]; exact h c hc⟩
/-- what is known of a thread's place -/
theorem Cod_z {G : Prg} {T a0 : Nat} {v0 : Row} {z : Nat → Bool} {s0 : Nat → Nat} {p : Pnt} {t : Nat} (h : Cod G T v0 a0 z s0 p) (ht : t < 3) (hz : z t = true) : sT p.2 t = s0 t := by
  obtain ⟨w, -, -, hw⟩ := h
  have hr : rho z s0 t = 0 := by unfold rho; rw [hz]; rfl
  rcases (hw t ht).2 with ⟨-, y⟩ | ⟨y, -⟩
  · rw [y]; unfold bse; rw [hz]; rfl
  · omega
theorem Cod_run {G : Prg} {T a0 : Nat} {v0 : Row} {z : Nat → Bool} {s0 : Nat → Nat} {p : Pnt} {t : Nat} (h : Cod G T v0 a0 z s0 p) (hs : ∀ t, t < 3 → s0 t / 4 ≤ 2 ∧ (z t = true → s0 t % 4 = 2)) (ht : t < 3) (h4 : 4 ≤ sT p.2 t) (h40 : sT p.2 t % 4 = 0) : z t = false ∧ sT p.2 t / 4 ≤ 2 ∧ s0 t / 4 ≠ 0 := by
  have hz : z t = false := by
    cases e : z t with
    | false => rfl
    | true =>
      have := Cod_z h ht e
      have := (hs t ht).2 e
      omega
  obtain ⟨w, -, -, hw⟩ := h
  have hr : rho z s0 t = s0 t / 4 := by unfold rho; rw [hz]; rfl
  have := (hs t ht).1
  rcases (hw t ht).2 with ⟨-, y⟩ | ⟨y, δ, y2, y3⟩
  · unfold bse at y; rw [hz] at y
    have : sT p.2 t = 0 := y
    omega
  · exact ⟨hz, by omega, by omega⟩
theorem Cod_status {G : Prg} {T a0 : Nat} {v0 : Row} {z : Nat → Bool} {s0 : Nat → Nat} {p p' : Pnt} {t : Nat} (h : Cod G T v0 a0 z s0 p) (hs : ∀ t, t < 3 → s0 t / 4 ≤ 2 ∧ (z t = true → s0 t % 4 = 2)) (ht : t < 3) (h4 : 4 ≤ sT p.2 t) (h40 : sT p.2 t % 4 = 0) {δ : Nat} (hδ : δ < 3) (e1 : p'.1 = p.1) (e2 : ∀ u, u < 3 → sT p'.2 u = awSet (sT p.2) t (sT p.2 t + δ) u) : Cod G T v0 a0 z s0 p' := by
  obtain ⟨hz, -, -⟩ := Cod_run h hs ht h4 h40
  obtain ⟨w, w1, w2, hw⟩ := h
  refine ⟨w, e1.trans w1, w2, fun u hu => ⟨(hw u hu).1, ?_⟩⟩
  rw [e2 u hu]
  by_cases e : u = t
  · subst e
    rw [awS_eq]
    rcases (hw u hu).2 with ⟨y1, y2⟩ | ⟨y1, d, y2, y3⟩
    · unfold bse at y2; rw [hz] at y2
      have : sT p.2 u = 0 := y2
      omega
    · exact Or.inr ⟨y1, δ, hδ, by omega⟩
  · rw [awS_ne e]; exact (hw u hu).2
theorem Cod_commit {G : Prg} {T a0 : Nat} {v0 : Row} {z : Nat → Bool} {s0 : Nat → Nat} {p p' : Pnt} {t x : Nat} (h : Cod G T v0 a0 z s0 p) (hs : ∀ t, t < 3 → s0 t / 4 ≤ 2 ∧ (z t = true → s0 t % 4 = 2)) (ht : t < 3) (h4 : 4 ≤ sT p.2 t) (h40 : sT p.2 t % 4 = 0) (e1 : p'.1 = pk6 (txV G T v0 (dg p.1) t)) (e2 : ∀ u, u < 3 → sT p'.2 u = nxC (sT p.2) t x u) : Cod G T v0 a0 z s0 p' := by
  obtain ⟨hz, -, -⟩ := Cod_run h hs ht h4 h40
  obtain ⟨w, w1, w2, hw⟩ := h
  refine ⟨t :: w, ?_, fun u hu => ?_, fun u hu => ?_⟩
  · rw [e1, w1]; rfl
  · rcases List.mem_cons.mp hu with e | e
    · rw [e]; exact ht
    · exact w2 u e
  · rw [e2 u hu, cntL_s]
    have hwu := hw u hu
    have base : ∀ k : Nat, (if x = 0 then k else k - k % 2) = nxC (fun _ => 0) 0 x 7 + (if x = 0 then k else k - k % 2) := fun k => by
      have : nxC (fun _ => 0) 0 x 7 = 0 := by
        unfold nxC
        by_cases c : x = 0
        · rw [if_pos c]; exact awS_ne (by omega)
        · rw [if_neg c]; show awSet (fun _ => 0) 0 (0 - 4) 7 - awSet (fun _ => 0) 0 (0 - 4) 7 % 2 = 0; rw [awS_ne (by omega)]
      omega
    have en : nxC (sT p.2) t x u = if x = 0 then awSet (sT p.2) t (sT p.2 t - 4) u else awSet (sT p.2) t (sT p.2 t - 4) u - awSet (sT p.2) t (sT p.2 t - 4) u % 2 := by
      unfold nxC
      split <;> rfl
    rw [en]
    by_cases e : t = u
    · subst e
      rw [if_pos rfl, awS_eq]
      rcases hwu.2 with ⟨y1, y2⟩ | ⟨y1, d, y2, y3⟩
      · unfold bse at y2; rw [hz] at y2
        have : sT p.2 t = 0 := y2
        omega
      · refine ⟨by omega, ?_⟩
        have ed : d = 0 := by omega
        have e3 : (if x = 0 then sT p.2 t - 4 else sT p.2 t - 4 - (sT p.2 t - 4) % 2) = sT p.2 t - 4 := by split <;> omega
        rw [e3]
        by_cases c : rho z s0 t - (cntL t w + 1) = 0
        · refine Or.inl ⟨c, ?_⟩
          unfold bse; rw [hz]
          show sT p.2 t - 4 = 0
          omega
        · exact Or.inr ⟨by omega, 0, by omega, by omega⟩
    · rw [if_neg e, awS_ne (fun y => e y.symm), Nat.add_zero]
      refine ⟨hwu.1, ?_⟩
      rcases hwu.2 with ⟨y1, y2⟩ | ⟨y1, d, y2, y3⟩
      · refine Or.inl ⟨y1, ?_⟩
        rw [y2]
        unfold bse
        cases ez : z u with
        | true =>
          have := (hs u hu).2 ez
          show (if x = 0 then s0 u else s0 u - s0 u % 2) = s0 u
          split <;> omega
        | false =>
          show (if x = 0 then 0 else 0 - 0 % 2) = 0
          split <;> rfl
      · refine Or.inr ⟨y1, if x = 0 then d else d - d % 2, by split <;> omega, ?_⟩
        split <;> omega
