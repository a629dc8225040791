/-! runScript: the whole -/
def PW : Nat → Int64
  | 0 => 1
  | k + 1 => PW k * 1000
def x3 (n : Nat) (script : Int64) (j : Nat) : Int32 := ((script / PW (n - 1 - j)) - (script / PW (n - 1 - j)) / (1000 : Int64) * (1000 : Int64)).toInt32
noncomputable def fScript (G : Prg) (T n : Nat) (script : Int64) : Nat → Nat → Row → Int32 → Int32 × Row × Int32
  | 0, _, v, w => (-9, v, w)
  | k + 1, j, v, w => cif ((fCmd G T v w (x3 n script j / (100 : Int32)) ((x3 n script j / (10 : Int32)) - (x3 n script j / (10 : Int32)) / (10 : Int32) * (10 : Int32)) (x3 n script j - x3 n script j / (10 : Int32) * (10 : Int32))).1 = 0)
      (nI j, (fCmd G T v w (x3 n script j / (100 : Int32)) ((x3 n script j / (10 : Int32)) - (x3 n script j / (10 : Int32)) / (10 : Int32) * (10 : Int32)) (x3 n script j - x3 n script j / (10 : Int32) * (10 : Int32))).2)
      (fScript G T n script k (j + 1) (fCmd G T v w (x3 n script j / (100 : Int32)) ((x3 n script j / (10 : Int32)) - (x3 n script j / (10 : Int32)) / (10 : Int32) * (10 : Int32)) (x3 n script j - x3 n script j / (10 : Int32) * (10 : Int32))).2.1 (fCmd G T v w (x3 n script j / (100 : Int32)) ((x3 n script j / (10 : Int32)) - (x3 n script j / (10 : Int32)) / (10 : Int32) * (10 : Int32)) (x3 n script j - x3 n script j / (10 : Int32) * (10 : Int32))).2.2)
theorem PW_pos : ∀ k, k < 4 → ¬ lg_cmp (PW k) (0 : Int64) ≤ 0 ∧ ¬ PW k = 0 := by decide +kernel
theorem PW_div : ∀ k, k < 3 → PW (k + 1) / (1000 : Int64) = PW k := by decide +kernel
theorem c_script {G : Prg} {T n : Nat} {script : Int64} {N : Nat → Nat} {D : Nat → Nat → Nat} {Q : Int32 → ct_M → Prop} (hn : n ≤ 4) (hT : T ≤ 3) (hs : PSs G T N D) : ∀ (k j B : Nat) (v : Row) (w : Int32) (v4 : Int64) (m : ct_M), j + k = n → B + 54 * k < 2 ^ 29 → (j < n → v4 = PW (n - 1 - j)) → (∀ s, s < T → PG G m (11 + 5 * s) s (N s)) → RW G m 912 v T → RWf G T N D B v → (∀ m', Fr m m' 912 (912 + 52) → Q (fScript G T n script k j v w).1 m') → wb_X11_runScript_73 Q (k + 1) 0 (nI n) script v4 (nI j) m := by
  intro k
  induction k with
  | zero =>
    intro j B v w v4 m hj hB h4 hP hw hf hq
    unfold wb_X11_runScript_73
    exact ⟨fun _ => hq m Fr.rfl', fun e => absurd ((cmp_le (by omega) (by omega)).mpr (by omega)) e⟩
  | succ k ih =>
    intro j B v w v4 m hj hB h4 hP hw hf hq
    have e4 := h4 (by omega)
    subst e4
    obtain ⟨p1, p2⟩ := PW_pos (n - 1 - j) (by omega)
    unfold wb_X11_runScript_73
    refine ⟨fun e => absurd ((cmp_le (by omega) (by omega)).mp e) (by omega), fun _ => ⟨fun e => absurd e p1, fun _ => ⟨p2, ?_⟩⟩⟩
    intro x hx
    have ex : x = x3 n script j := hx
    subst ex
    refine c_cmd (w := w) hT hs (dig9 _) (by omega) hP hw hf (fun m1 f1 rw1 => ⟨fun c => ?_, fun c => ?_⟩)
    · intro y hy z hz
      have e : fScript G T n script (k + 1) j v w = _ := cif_f c
      rw [e] at hq
      rw [hz, nI_ofNat 1, nI_add]
      refine ih (j + 1) (B + 54) _ _ y m1 (by omega) (by omega) (fun hjn => ?_) (PG_fr (b := 912) hT (by omega) hP fun q hq => f1.2 q (by omega)) rw1 (fCmd_wf hs hT (dig9 _) (by omega) hf) (fun m2 f2 => hq m2 (f1.tr f2))
      have := PW_div (n - 1 - (j + 1)) (by omega)
      rw [show n - 1 - (j + 1) + 1 = n - 1 - j by omega] at this
      rw [hy, this]
    · have e : fScript G T n script (k + 1) j v w = _ := cif_t c
      rw [e] at hq
      exact hq m1 f1
theorem r_thousands {k : Nat} {Q : Int64 → ct_M → Prop} {m : ct_M} (hk : k ≤ 4) (h : Q (PW k) m) : wp_X12_thousands (nI k) Q m := by
  have loop : ∀ (n j : Nat), j + n = k → wb_X12_thousands_4 Q (n + 1) (nI k) (PW j) (nI j) m := by
    intro n
    induction n with
    | zero =>
      intro j hj
      have : j = k := by omega
      subst this
      unfold wb_X12_thousands_4
      exact ⟨fun _ => h, fun e => absurd ((cmp_le (by omega) (by omega)).mpr (Nat.le_refl _)) e⟩
    | succ n ih =>
      intro j hj
      have nx := ih (j + 1) (by omega)
      unfold wb_X12_thousands_4
      refine ⟨fun e => absurd ((cmp_le (by omega) (by omega)).mp e) (by omega), fun _ => ?_⟩
      intro x hx y hy
      rw [hx, hy, nI_ofNat 1, nI_add]
      exact nx
  exact ⟨k + 1, loop k 0 (by omega)⟩
theorem r_script {G : Prg} {T n : Nat} {script : Int64} {N : Nat → Nat} {D : Nat → Nat → Nat} {Q : Int32 → ct_M → Prop} {m : ct_M} (hn : n ≤ 4) (hT : T ≤ 3) (hT0 : 0 < T) (hs : PSs G T N D) (hG : HasP G m) (hth : m.1 1023 4 = nI T) : ∀ (k j B : Nat) (v : Row) (w : Int32), j + k = n → B + 54 * k < 2 ^ 29 → RWf G T N D B v → Q (fScript G T n script k j v w).1 (refC m (fScript G T n script k j v w).2.2 (fScript G T n script k j v w).2.1) → wb_X12_runScript_48 Q (k + 1) 1023 (nI n) script (nI j) (refC m w v) := by
  intro k
  induction k with
  | zero =>
    intro j B v w hj hB hf hq
    unfold wb_X12_runScript_48
    exact ⟨fun _ => hq, fun e => absurd ((cmp_le (by omega) (by omega)).mpr (by omega)) e⟩
  | succ k ih =>
    intro j B v w hj hB hf hq
    obtain ⟨p1, p2⟩ := PW_pos (n - 1 - j) (by omega)
    unfold wb_X12_runScript_48
    refine ⟨fun e => absurd ((cmp_le (by omega) (by omega)).mp e) (by omega), fun _ => ?_⟩
    have e1 : nI n - 1 - nI j = nI (n - 1 - j) := (by decide : ∀ n, n < 5 → ∀ j, j < n → nI n - 1 - nI j = nI (n - 1 - j)) n (by omega) j (by omega)
    rw [e1]
    refine r_thousands (by omega) ⟨p2, ?_⟩
    intro x hx
    have ex : x = x3 n script j := hx
    subst ex
    by_cases c : (fCmd G T v w (x3 n script j / (100 : Int32)) ((x3 n script j / (10 : Int32)) - (x3 n script j / (10 : Int32)) / (10 : Int32) * (10 : Int32)) (x3 n script j - x3 n script j / (10 : Int32) * (10 : Int32))).1 = 0
    · have e : fScript G T n script (k + 1) j v w = _ := cif_t c
      rw [e] at hq
      exact r_cmd hT hT0 hs hG hth (dig9 _) (by omega) hf ⟨fun z => absurd c z, fun _ => hq⟩
    · have e : fScript G T n script (k + 1) j v w = _ := cif_f c
      rw [e] at hq
      refine r_cmd hT hT0 hs hG hth (dig9 _) (by omega) hf ⟨fun _ => ?_, fun z => absurd z c⟩
      intro y hy
      rw [hy, nI_ofNat 1, nI_add]
      exact ih (j + 1) (B + 54) _ _ (by omega) (by omega) (fCmd_wf hs hT (dig9 _) (by omega) hf) hq
