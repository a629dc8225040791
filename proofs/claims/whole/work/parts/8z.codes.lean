/-! the points of the schedules: each is an order of commits and what the threads are at; there are at most 1359 -/
abbrev Pnt : Type := Nat × Nat
def wordsN : Nat → Nat → Nat → Nat → List (List Nat)
  | 0, _, _, _ => [[]]
  | f + 1, a, b, c => [] :: ((if 0 < a then (wordsN f (a - 1) b c).map (fun w => 0 :: w) else []) ++ ((if 0 < b then (wordsN f a (b - 1) c).map (fun w => 1 :: w) else []) ++ (if 0 < c then (wordsN f a b (c - 1)).map (fun w => 2 :: w) else [])))
def cntL (t : Nat) : List Nat → Nat
  | [] => 0
  | u :: w => cntL t w + (if u = t then 1 else 0)
theorem cntL_s {t u : Nat} {w : List Nat} : cntL t (u :: w) = cntL t w + (if u = t then 1 else 0) := rfl
theorem mem_words : ∀ (f a b c : Nat) (w : List Nat), a + b + c ≤ f → (∀ u, u ∈ w → u < 3) → cntL 0 w ≤ a → cntL 1 w ≤ b → cntL 2 w ≤ c → w ∈ wordsN f a b c := by
  intro f
  induction f with
  | zero =>
    intro a b c w hf hu h0 h1 h2
    cases w with
    | nil => exact List.mem_singleton.mpr rfl
    | cons u w =>
      have := hu u List.mem_cons_self
      rw [cntL_s] at h0 h1 h2
      have : u = 0 ∨ u = 1 ∨ u = 2 := by omega
      rcases this with e | e | e <;> subst e
      · rw [if_pos rfl] at h0; omega
      · rw [if_pos rfl] at h1; omega
      · rw [if_pos rfl] at h2; omega
  | succ f ih =>
    intro a b c w hf hu h0 h1 h2
    cases w with
    | nil => exact List.mem_cons_self
    | cons u w =>
      have hu3 := hu u List.mem_cons_self
      have hw : ∀ x, x ∈ w → x < 3 := fun x hx => hu x (List.mem_cons_of_mem _ hx)
      rw [cntL_s] at h0 h1 h2
      refine List.mem_cons_of_mem _ ?_
      have : u = 0 ∨ u = 1 ∨ u = 2 := by omega
      rcases this with e | e | e <;> subst e
      · rw [if_pos rfl] at h0
        rw [if_neg (by omega)] at h1 h2
        refine List.mem_append_left _ ?_
        rw [if_pos (by omega)]
        exact List.mem_map.mpr ⟨w, ih (a - 1) b c w (by omega) hw (by omega) (by omega) (by omega), rfl⟩
      · rw [if_pos rfl] at h1
        rw [if_neg (by omega)] at h0 h2
        refine List.mem_append_right _ (List.mem_append_left _ ?_)
        rw [if_pos (by omega)]
        exact List.mem_map.mpr ⟨w, ih a (b - 1) c w (by omega) hw (by omega) (by omega) (by omega), rfl⟩
      · rw [if_pos rfl] at h2
        rw [if_neg (by omega)] at h0 h1
        refine List.mem_append_right _ (List.mem_append_right _ ?_)
        rw [if_pos (by omega)]
        exact List.mem_map.mpr ⟨w, ih a b (c - 1) w (by omega) hw (by omega) (by omega) (by omega), rfl⟩
def deltas (r : Nat) : List Nat := if r = 0 then [0] else [0, 1, 2]
def codesN (a b c : Nat) : List (List Nat × Nat × Nat × Nat) := (wordsN 6 a b c).flatMap fun w => (deltas (a - cntL 0 w)).flatMap fun x => (deltas (b - cntL 1 w)).flatMap fun y => (deltas (c - cntL 2 w)).map fun z => (w, x, y, z)
theorem codes_len : ∀ a, a < 3 → ∀ b, b < 3 → ∀ c, c < 3 → (codesN a b c).length ≤ 1359 := by decide +kernel
