/-! the words of the tables that a call may carry -/
def ct_UW : List Cond := lw_tbl.filter goodWord
theorem ct_mem_of {w : Cond} (h : w ∈ lw_tbl) (g : goodWord w = true) : w ∈ ct_UW := List.mem_filter.mpr ⟨h, g⟩
theorem ct_w1 {w : Cond} (i : Nat) (h : tables_1_1[i]? = some w) (g : goodWord w = true) : w ∈ ct_UW := ct_mem_of (List.mem_append_right _ (List.mem_append_left _ (List.mem_of_getElem? h))) g
theorem ct_w2 {w : Cond} (i : Nat) (h : tables_1_2[i]? = some w) (g : goodWord w = true) : w ∈ ct_UW := ct_mem_of (List.mem_append_right _ (List.mem_append_right _ (List.mem_append_left _ (List.mem_of_getElem? h)))) g
theorem ct_w3 {w : Cond} (i : Nat) (h : tables_1_3[i]? = some w) (g : goodWord w = true) : w ∈ ct_UW := ct_mem_of (List.mem_append_right _ (List.mem_append_right _ (List.mem_append_right _ (List.mem_append_left _ (List.mem_of_getElem? h))))) g
theorem ct_w4 {w : Cond} (i : Nat) (h : tables_1_4[i]? = some w) (g : goodWord w = true) : w ∈ ct_UW := ct_mem_of (List.mem_append_right _ (List.mem_append_right _ (List.mem_append_right _ (List.mem_append_right _ (List.mem_append_left _ (List.mem_of_getElem? h)))))) g
theorem ct_w5 {w : Cond} (i : Nat) (h : tables_1_5[i]? = some w) (g : goodWord w = true) : w ∈ ct_UW := ct_mem_of (List.mem_append_right _ (List.mem_append_right _ (List.mem_append_right _ (List.mem_append_right _ (List.mem_append_right _ (List.mem_of_getElem? h)))))) g
theorem ct_w0 {w : Cond} (i : Nat) (h : (k2_sels lw_privs)[i]? = some w) (g : goodWord w = true) : w ∈ ct_UW := ct_mem_of (List.mem_append_left _ (List.mem_of_getElem? h)) g
/-! memory: ints by cell and place, longs by cell and place -/
abbrev ct_M : Type := (Nat → Nat → Int32) × (Nat → Nat → Int64)
def ct_st (m : ct_M) (a j : Nat) (x : Int32) : ct_M := (va_up m.1 a (upd (m.1 a) j x), m.2)
def ct_sL (m : ct_M) (a j : Nat) (x : Int64) : ct_M := (m.1, va_up m.2 a (vp_updL (m.2 a) j x))
def ct_cp (m : ct_M) (a b sp dp n : Nat) : ct_M := (va_up m.1 b (va_cpy (m.1 a) (m.1 b) sp dp n), m.2)
/-! the layout: the kind and the length of each cell, counted from the class's own object -/
def ct_wk : List Nat := [9, 0, 14, 0, 14, 17, 4, 0, 14, 4, 0, 14, 4, 0, 14]
def ct_wl : List Nat := [0, 0, 6, 0, 6, 3, 0, 0, 6, 0, 0, 6, 0, 0, 6]
def ct_wt : List Nat := [10, 14, 14, 19, 14, 14, 14] ++ (ct_wk ++ (ct_wk ++ ct_wk))
def ct_wn : List Nat := [0, 6, 6, 3, 4, 4, 4] ++ (ct_wl ++ (ct_wl ++ ct_wl))
def ct_wg : List Nat := [0, 0, 0, 0, 0, 0, 0] ++ ([11, 0, 0, 0, 0, 0, 0, 0, 0, 0, 0, 0, 0, 0, 0] ++ ([16, 0, 0, 0, 0, 0, 0, 0, 0, 0, 0, 0, 0, 0, 0] ++ [21, 0, 0, 0, 0, 0, 0, 0, 0, 0, 0, 0, 0, 0, 0]))
def ct_pick (hd wt hi sc md : List Nat) (d a : Nat) : Nat := if a < 26 then hd.getD a d else if a < 78 then wt.getD (a - 26) d else if a < 80 then hi.getD (a - 78) d else if a < 964 then wt.getD ((a - 80) % 52) d else if a < 971 then sc.getD (a - 964) d else if a < 1023 then wt.getD (a - 971) d else md.getD (a - 1023) d
def ct_kd (a : Nat) : Nat := ct_pick [11, 8, 13, 7, 13, 18, 20, 16, 3, 14, 14, 5, 13, 14, 14, 14, 5, 13, 14, 14, 14, 5, 13, 14, 14, 14] ct_wt [1, 20] [6, 2, 15, 14, 2, 15, 14] [12, 14, 14, 14, 14, 14, 14, 14, 14, 14, 14, 16, 14, 14, 14, 14, 14, 14, 14, 14, 14, 14, 15, 15] 99 a
def ct_ln (a : Nat) : Nat := ct_pick [0, 0, 60, 0, 3, 3, 2, 2, 0, 4, 4, 0, 60, 60, 60, 3, 0, 60, 60, 60, 3, 0, 60, 60, 60, 3] ct_wn [0, 14] [0, 0, 1359, 2048, 0, 1359, 2048] [0, 60, 3, 180, 180, 180, 180, 172, 172, 2408, 344, 2, 4, 4, 6, 3, 3, 180, 180, 180, 180, 3, 4096, 4096] 0 a
def ct_pg (a : Nat) : Nat := ct_pick [] ct_wg [0, 0] [] [] 0 a
def ct_NN : Nat := 1047
def ct_elW (a i : Nat) : Nat := if a = 6 then 808 + 52 * i else a + 1 + 52 * i
def ct_KN (N X a : Nat) : Prop := a < N ∧ ct_kd a = X
abbrev ct_K (X a : Nat) : Prop := ct_KN ct_NN X a
/-- what the cell a of the pool holds -/
def ct_E (cy : Nat → ClassId) (o : Nat) (m : ct_M) (a : Nat) : va_E := match ct_kd a with
  | 0 => .inr (0, [.int (m.1 a 0), .ref (o + (a + 1))])
  | 1 => .inr (1, [.ref (o + (a + 1)), .int (m.1 a 1), .int (m.1 a 2)])
  | 2 => .inr (2, [.ref (o + (a + 1)), .int (m.1 a 1), .ref (o + (a + 2))])
  | 3 => .inr (3, [.ref (o + (a + 1)), .ref (o + (a + 2)), .int (m.1 a 2), .int (m.1 a 3)])
  | 4 => .inr (4, [.int (m.1 a 0), .int (m.1 a 1), .int (m.1 a 2), .int (m.1 a 3), .ref (o + (a + 1))])
  | 5 => .inr (5, [.ref (o + (a + 1)), .ref (o + (a + 2)), .ref (o + (a + 3)), .int (m.1 a 3), .ref (o + (a + 4)), .int (m.1 a 5)])
  | 6 => .inr (6, [.ref (o + (a + 7)), .ref (o + (a + 1)), .ref (o + (a + 4))])
  | 7 => .inr (7, [.int (m.1 a 0), .int (m.1 a 1), .int (m.1 a 2), .int (m.1 a 3), .ref (o + (a + 1))])
  | 8 => .inr (8, [.ref (o + (a + 1)), .int (m.1 a 1), .ref (o + (a + 2))])
  | 9 => .inr (9, [.ref (o + (ct_pg a)), .int (m.1 a 1), .int (m.1 a 2), .int (m.1 a 3), .int (m.1 a 4), .int (m.1 a 5), .ref (o + (a + 1)), .ref (o + (a + 3)), .ref (o + (a + 5)), .int (m.1 a 9)])
  | 10 => .inr (10, [.ref (o + (a + 1)), .ref (o + (a + 2)), .ref (o + (a + 3)), .int (m.1 a 3), .ref (o + (a + 4)), .ref (o + (a + 5)), .ref (o + (a + 6)), .int (m.1 a 7)])
  | 11 => .inr (11, [.ref (o + (a + 1)), .ref (o + (a + 5)), .ref (o + (a + 26)), .ref (o + (a + 78)), .ref (o + (a + 6)), .ref (o + (a + 7)), .ref (o + (a + 912)), .ref (o + (a + 8)), .ref (o + (a + 964))])
  | 12 => .inr (12, [.int (m.1 a 0), .ref (o + (a + 1)), .int (m.1 a 2), .int (m.1 a 3), .int (m.1 a 4), .ref (o + (a + 2)), .ref (o + (a + 3)), .ref (o + (a + 4)), .ref (o + (a + 5)), .ref (o + (a + 6)), .ref (o + (a + 7)), .ref (o + (a + 8)), .ref (o + (a + 9)), .int (m.1 a 13), .ref (o + (a + 10)), .ref (o + (a + 11)), .int (m.1 a 16), .ref (o + (a + 12)), .ref (o + (a + 13)), .int (m.1 a 19), .ref (o + (a + 14)), .ref (o + (a + 15)), .ref (o + (a + 16)), .ref (o + (a + 17)), .ref (o + (a + 18)), .ref (o + (a + 19)), .ref (o + (a + 20)), .ref (o + (a + 21)), .int (m.1 a 28), .int (m.1 a 29), .ref (o + (a + 22)), .int (m.1 a 31), .ref (o + (a + 23)), .int (m.1 a 33)])
  | 13 => .inl (cy 13, ct_ln a, .inl (m.1 a))
  | 14 => .inl (cy 14, ct_ln a, .inl (m.1 a))
  | 16 => .inl (cy 16, ct_ln a, .inl (m.1 a))
  | 15 => .inl (cy 15, ct_ln a, .inr (.inl (m.2 a)))
  | 17 => .inl (cy 17, ct_ln a, .inr (.inr (.inr (.inr (fun i => some (o + (a + 1 + 3 * i)))))))
  | 18 => .inl (cy 18, ct_ln a, .inr (.inr (.inr (.inr (fun i => some (o + (a + 6 + 5 * i)))))))
  | 19 => .inl (cy 19, ct_ln a, .inr (.inr (.inr (.inr (fun i => some (o + (a + 4 + 15 * i)))))))
  | 20 => .inl (cy 20, ct_ln a, .inr (.inr (.inr (.inr (fun i => some (o + (ct_elW a i)))))))
  | _ => .inl (cy 14, 0, .inl (m.1 a))
theorem ct_E0 {cy : Nat → ClassId} {o : Nat} {m : ct_M} {a N : Nat} (h : ct_KN N 0 a) : ct_E cy o m a = .inr (0, [.int (m.1 a 0), .ref (o + (a + 1))]) := by simp only [ct_E, h.2]
theorem ct_E1 {cy : Nat → ClassId} {o : Nat} {m : ct_M} {a N : Nat} (h : ct_KN N 1 a) : ct_E cy o m a = .inr (1, [.ref (o + (a + 1)), .int (m.1 a 1), .int (m.1 a 2)]) := by simp only [ct_E, h.2]
theorem ct_E2 {cy : Nat → ClassId} {o : Nat} {m : ct_M} {a N : Nat} (h : ct_KN N 2 a) : ct_E cy o m a = .inr (2, [.ref (o + (a + 1)), .int (m.1 a 1), .ref (o + (a + 2))]) := by simp only [ct_E, h.2]
theorem ct_E3 {cy : Nat → ClassId} {o : Nat} {m : ct_M} {a N : Nat} (h : ct_KN N 3 a) : ct_E cy o m a = .inr (3, [.ref (o + (a + 1)), .ref (o + (a + 2)), .int (m.1 a 2), .int (m.1 a 3)]) := by simp only [ct_E, h.2]
theorem ct_E4 {cy : Nat → ClassId} {o : Nat} {m : ct_M} {a N : Nat} (h : ct_KN N 4 a) : ct_E cy o m a = .inr (4, [.int (m.1 a 0), .int (m.1 a 1), .int (m.1 a 2), .int (m.1 a 3), .ref (o + (a + 1))]) := by simp only [ct_E, h.2]
theorem ct_E5 {cy : Nat → ClassId} {o : Nat} {m : ct_M} {a N : Nat} (h : ct_KN N 5 a) : ct_E cy o m a = .inr (5, [.ref (o + (a + 1)), .ref (o + (a + 2)), .ref (o + (a + 3)), .int (m.1 a 3), .ref (o + (a + 4)), .int (m.1 a 5)]) := by simp only [ct_E, h.2]
theorem ct_E6 {cy : Nat → ClassId} {o : Nat} {m : ct_M} {a N : Nat} (h : ct_KN N 6 a) : ct_E cy o m a = .inr (6, [.ref (o + (a + 7)), .ref (o + (a + 1)), .ref (o + (a + 4))]) := by simp only [ct_E, h.2]
theorem ct_E7 {cy : Nat → ClassId} {o : Nat} {m : ct_M} {a N : Nat} (h : ct_KN N 7 a) : ct_E cy o m a = .inr (7, [.int (m.1 a 0), .int (m.1 a 1), .int (m.1 a 2), .int (m.1 a 3), .ref (o + (a + 1))]) := by simp only [ct_E, h.2]
theorem ct_E8 {cy : Nat → ClassId} {o : Nat} {m : ct_M} {a N : Nat} (h : ct_KN N 8 a) : ct_E cy o m a = .inr (8, [.ref (o + (a + 1)), .int (m.1 a 1), .ref (o + (a + 2))]) := by simp only [ct_E, h.2]
theorem ct_E9 {cy : Nat → ClassId} {o : Nat} {m : ct_M} {a N : Nat} (h : ct_KN N 9 a) : ct_E cy o m a = .inr (9, [.ref (o + (ct_pg a)), .int (m.1 a 1), .int (m.1 a 2), .int (m.1 a 3), .int (m.1 a 4), .int (m.1 a 5), .ref (o + (a + 1)), .ref (o + (a + 3)), .ref (o + (a + 5)), .int (m.1 a 9)]) := by simp only [ct_E, h.2]
theorem ct_E10 {cy : Nat → ClassId} {o : Nat} {m : ct_M} {a N : Nat} (h : ct_KN N 10 a) : ct_E cy o m a = .inr (10, [.ref (o + (a + 1)), .ref (o + (a + 2)), .ref (o + (a + 3)), .int (m.1 a 3), .ref (o + (a + 4)), .ref (o + (a + 5)), .ref (o + (a + 6)), .int (m.1 a 7)]) := by simp only [ct_E, h.2]
theorem ct_E11 {cy : Nat → ClassId} {o : Nat} {m : ct_M} {a N : Nat} (h : ct_KN N 11 a) : ct_E cy o m a = .inr (11, [.ref (o + (a + 1)), .ref (o + (a + 5)), .ref (o + (a + 26)), .ref (o + (a + 78)), .ref (o + (a + 6)), .ref (o + (a + 7)), .ref (o + (a + 912)), .ref (o + (a + 8)), .ref (o + (a + 964))]) := by simp only [ct_E, h.2]
theorem ct_E12 {cy : Nat → ClassId} {o : Nat} {m : ct_M} {a N : Nat} (h : ct_KN N 12 a) : ct_E cy o m a = .inr (12, [.int (m.1 a 0), .ref (o + (a + 1)), .int (m.1 a 2), .int (m.1 a 3), .int (m.1 a 4), .ref (o + (a + 2)), .ref (o + (a + 3)), .ref (o + (a + 4)), .ref (o + (a + 5)), .ref (o + (a + 6)), .ref (o + (a + 7)), .ref (o + (a + 8)), .ref (o + (a + 9)), .int (m.1 a 13), .ref (o + (a + 10)), .ref (o + (a + 11)), .int (m.1 a 16), .ref (o + (a + 12)), .ref (o + (a + 13)), .int (m.1 a 19), .ref (o + (a + 14)), .ref (o + (a + 15)), .ref (o + (a + 16)), .ref (o + (a + 17)), .ref (o + (a + 18)), .ref (o + (a + 19)), .ref (o + (a + 20)), .ref (o + (a + 21)), .int (m.1 a 28), .int (m.1 a 29), .ref (o + (a + 22)), .int (m.1 a 31), .ref (o + (a + 23)), .int (m.1 a 33)]) := by simp only [ct_E, h.2]
theorem ct_E13 {cy : Nat → ClassId} {o : Nat} {m : ct_M} {a N : Nat} (h : ct_KN N 13 a) : ct_E cy o m a = .inl (cy 13, ct_ln a, .inl (m.1 a)) := by simp only [ct_E, h.2]
theorem ct_E14 {cy : Nat → ClassId} {o : Nat} {m : ct_M} {a N : Nat} (h : ct_KN N 14 a) : ct_E cy o m a = .inl (cy 14, ct_ln a, .inl (m.1 a)) := by simp only [ct_E, h.2]
theorem ct_E16 {cy : Nat → ClassId} {o : Nat} {m : ct_M} {a N : Nat} (h : ct_KN N 16 a) : ct_E cy o m a = .inl (cy 16, ct_ln a, .inl (m.1 a)) := by simp only [ct_E, h.2]
theorem ct_E15 {cy : Nat → ClassId} {o : Nat} {m : ct_M} {a N : Nat} (h : ct_KN N 15 a) : ct_E cy o m a = .inl (cy 15, ct_ln a, .inr (.inl (m.2 a))) := by simp only [ct_E, h.2]
theorem ct_E17 {cy : Nat → ClassId} {o : Nat} {m : ct_M} {a N : Nat} (h : ct_KN N 17 a) : ct_E cy o m a = .inl (cy 17, ct_ln a, .inr (.inr (.inr (.inr (fun i => some (o + (a + 1 + 3 * i))))))) := by simp only [ct_E, h.2]
theorem ct_E18 {cy : Nat → ClassId} {o : Nat} {m : ct_M} {a N : Nat} (h : ct_KN N 18 a) : ct_E cy o m a = .inl (cy 18, ct_ln a, .inr (.inr (.inr (.inr (fun i => some (o + (a + 6 + 5 * i))))))) := by simp only [ct_E, h.2]
theorem ct_E19 {cy : Nat → ClassId} {o : Nat} {m : ct_M} {a N : Nat} (h : ct_KN N 19 a) : ct_E cy o m a = .inl (cy 19, ct_ln a, .inr (.inr (.inr (.inr (fun i => some (o + (a + 4 + 15 * i))))))) := by simp only [ct_E, h.2]
theorem ct_E20 {cy : Nat → ClassId} {o : Nat} {m : ct_M} {a N : Nat} (h : ct_KN N 20 a) : ct_E cy o m a = .inl (cy 20, ct_ln a, .inr (.inr (.inr (.inr (fun i => some (o + (ct_elW a i))))))) := by simp only [ct_E, h.2]
theorem ct_E_congr {cy : Nat → ClassId} {o : Nat} {m m' : ct_M} {a : Nat} (h1 : m'.1 a = m.1 a) (h2 : m'.2 a = m.2 a) : ct_E cy o m' a = ct_E cy o m a := by simp only [ct_E, h1, h2]
def ct_pw (cy : Nat → ClassId) (o N : Nat) (m : ct_M) : va_W := (List.range N).map (fun a => (o + a, ct_E cy o m a))
theorem ct_pw_get {cy : Nat → ClassId} {o N : Nat} {m : ct_M} {a : Nat} (h : a < N) : (ct_pw cy o N m)[a]? = some (o + a, ct_E cy o m a) := by
  simp [ct_pw, List.getElem?_map, List.getElem?_range h]
theorem ct_pw_inv {cy : Nat → ClassId} {o N : Nat} {m : ct_M} {k : Nat} {q : Nat × va_E} (h : (ct_pw cy o N m)[k]? = some q) : k < N ∧ q = (o + k, ct_E cy o m k) := by
  have hk : k < N := by
    have := (List.getElem?_eq_some_iff.mp h).1
    simpa [ct_pw] using this
  rw [ct_pw_get hk] at h
  exact ⟨hk, (Option.some.inj h).symm⟩
theorem ct_pw_set {cy : Nat → ClassId} {o N : Nat} {m m' : ct_M} {a : Nat} {e : va_E} (he : ct_E cy o m' a = e) (hn : ∀ q, q ≠ a → ct_E cy o m' q = ct_E cy o m q) : (ct_pw cy o N m).set a (o + a, e) = ct_pw cy o N m' := by
  subst he
  refine List.ext_getElem? fun k => ?_
  rw [List.getElem?_set]
  by_cases hk : k < N
  · rw [ct_pw_get hk]
    by_cases ha : a = k
    · subst ha
      rw [if_pos rfl, if_pos (by simpa [ct_pw] using hk)]
      exact (ct_pw_get hk).symm
    · rw [if_neg ha, ct_pw_get hk, hn k (fun e => ha e.symm)]
  · have h1 : ∀ m : ct_M, (ct_pw cy o N m)[k]? = none := fun m => List.getElem?_eq_none (by simp [ct_pw]; omega)
    rw [h1, h1]
    by_cases ha : a = k
    · subst ha
      rw [if_pos rfl, if_neg (by simpa [ct_pw] using hk)]
    · rw [if_neg ha]
theorem ct_pw_D {cy : Nat → ClassId} {o N : Nat} {m : ct_M} : va_D (fun q => o ≤ q) (ct_pw cy o N m) := by
  refine ⟨fun i j p q hp hq e => ?_, fun k q hq => ?_⟩
  · obtain ⟨-, rfl⟩ := ct_pw_inv hp
    obtain ⟨-, rfl⟩ := ct_pw_inv hq
    simp at e
    omega
  · obtain ⟨-, rfl⟩ := ct_pw_inv hq
    exact Nat.le_add_right _ _
theorem ct_st_ne {m : ct_M} {a j q : Nat} {x : Int32} (h : q ≠ a) : (ct_st m a j x).1 q = m.1 q := va_up_ne _ _ h
theorem ct_sL_ne {m : ct_M} {a j q : Nat} {x : Int64} (h : q ≠ a) : (ct_sL m a j x).2 q = m.2 q := va_up_ne _ _ h
theorem ct_cp_ne {m : ct_M} {a b sp dp n q : Nat} (h : q ≠ b) : (ct_cp m a b sp dp n).1 q = m.1 q := va_up_ne _ _ h
theorem ct_st_eq {m : ct_M} {a j : Nat} {x : Int32} : (ct_st m a j x).1 a = upd (m.1 a) j x := by simp [ct_st, va_up]
theorem ct_sL_eq {m : ct_M} {a j : Nat} {x : Int64} : (ct_sL m a j x).2 a = vp_updL (m.2 a) j x := by simp [ct_sL, va_up]
theorem ct_cp_eq {m : ct_M} {a b sp dp n : Nat} : (ct_cp m a b sp dp n).1 b = va_cpy (m.1 a) (m.1 b) sp dp n := by simp [ct_cp, va_up]
def ct_tys (cy : Nat → ClassId) : List (ClassId × FieldType) := [(cy 13, .char), (cy 14, .int), (cy 15, .long), (cy 16, .boolean), (cy 17, .object "CellTransactions$OpenBlock"), (cy 18, .object "CellTransactions$Program"), (cy 19, .object "CellTransactions$Worker"), (cy 20, .object "CellTransactions$World")]
/-! the kinds of what a cell points to -/
theorem ct_all (P : Nat → Bool) (h : (List.range ct_NN).all P = true) {a : Nat} (ha : a < ct_NN) : P a = true := List.all_eq_true.mp h a (List.mem_range.mpr ha)
theorem ct_t0_1 {a : Nat} (h : ct_K 0 a) : ct_K 14 (a + 1) := by
  have h1 := ct_all (fun a => !(ct_kd a == 0) || (decide (a + 1 < ct_NN) && ct_kd (a + 1) == 14)) (by decide +kernel) h.1
  simp only [h.2, beq_self_eq_true, Bool.not_true, Bool.false_or, Bool.and_eq_true, decide_eq_true_eq, beq_iff_eq] at h1
  exact h1
theorem ct_t1_0 {a : Nat} (h : ct_K 1 a) : ct_K 20 (a + 1) := by
  have h1 := ct_all (fun a => !(ct_kd a == 1) || (decide (a + 1 < ct_NN) && ct_kd (a + 1) == 20)) (by decide +kernel) h.1
  simp only [h.2, beq_self_eq_true, Bool.not_true, Bool.false_or, Bool.and_eq_true, decide_eq_true_eq, beq_iff_eq] at h1
  exact h1
theorem ct_t2_0 {a : Nat} (h : ct_K 2 a) : ct_K 15 (a + 1) := by
  have h1 := ct_all (fun a => !(ct_kd a == 2) || (decide (a + 1 < ct_NN) && ct_kd (a + 1) == 15)) (by decide +kernel) h.1
  simp only [h.2, beq_self_eq_true, Bool.not_true, Bool.false_or, Bool.and_eq_true, decide_eq_true_eq, beq_iff_eq] at h1
  exact h1
theorem ct_t2_2 {a : Nat} (h : ct_K 2 a) : ct_K 14 (a + 2) := by
  have h1 := ct_all (fun a => !(ct_kd a == 2) || (decide (a + 2 < ct_NN) && ct_kd (a + 2) == 14)) (by decide +kernel) h.1
  simp only [h.2, beq_self_eq_true, Bool.not_true, Bool.false_or, Bool.and_eq_true, decide_eq_true_eq, beq_iff_eq] at h1
  exact h1
theorem ct_t3_0 {a : Nat} (h : ct_K 3 a) : ct_K 14 (a + 1) := by
  have h1 := ct_all (fun a => !(ct_kd a == 3) || (decide (a + 1 < ct_NN) && ct_kd (a + 1) == 14)) (by decide +kernel) h.1
  simp only [h.2, beq_self_eq_true, Bool.not_true, Bool.false_or, Bool.and_eq_true, decide_eq_true_eq, beq_iff_eq] at h1
  exact h1
theorem ct_t3_1 {a : Nat} (h : ct_K 3 a) : ct_K 14 (a + 2) := by
  have h1 := ct_all (fun a => !(ct_kd a == 3) || (decide (a + 2 < ct_NN) && ct_kd (a + 2) == 14)) (by decide +kernel) h.1
  simp only [h.2, beq_self_eq_true, Bool.not_true, Bool.false_or, Bool.and_eq_true, decide_eq_true_eq, beq_iff_eq] at h1
  exact h1
theorem ct_t4_4 {a : Nat} (h : ct_K 4 a) : ct_K 0 (a + 1) := by
  have h1 := ct_all (fun a => !(ct_kd a == 4) || (decide (a + 1 < ct_NN) && ct_kd (a + 1) == 0)) (by decide +kernel) h.1
  simp only [h.2, beq_self_eq_true, Bool.not_true, Bool.false_or, Bool.and_eq_true, decide_eq_true_eq, beq_iff_eq] at h1
  exact h1
theorem ct_t5_0 {a : Nat} (h : ct_K 5 a) : ct_K 13 (a + 1) := by
  have h1 := ct_all (fun a => !(ct_kd a == 5) || (decide (a + 1 < ct_NN) && ct_kd (a + 1) == 13)) (by decide +kernel) h.1
  simp only [h.2, beq_self_eq_true, Bool.not_true, Bool.false_or, Bool.and_eq_true, decide_eq_true_eq, beq_iff_eq] at h1
  exact h1
theorem ct_t5_1 {a : Nat} (h : ct_K 5 a) : ct_K 14 (a + 2) := by
  have h1 := ct_all (fun a => !(ct_kd a == 5) || (decide (a + 2 < ct_NN) && ct_kd (a + 2) == 14)) (by decide +kernel) h.1
  simp only [h.2, beq_self_eq_true, Bool.not_true, Bool.false_or, Bool.and_eq_true, decide_eq_true_eq, beq_iff_eq] at h1
  exact h1
theorem ct_t5_2 {a : Nat} (h : ct_K 5 a) : ct_K 14 (a + 3) := by
  have h1 := ct_all (fun a => !(ct_kd a == 5) || (decide (a + 3 < ct_NN) && ct_kd (a + 3) == 14)) (by decide +kernel) h.1
  simp only [h.2, beq_self_eq_true, Bool.not_true, Bool.false_or, Bool.and_eq_true, decide_eq_true_eq, beq_iff_eq] at h1
  exact h1
theorem ct_t5_4 {a : Nat} (h : ct_K 5 a) : ct_K 14 (a + 4) := by
  have h1 := ct_all (fun a => !(ct_kd a == 5) || (decide (a + 4 < ct_NN) && ct_kd (a + 4) == 14)) (by decide +kernel) h.1
  simp only [h.2, beq_self_eq_true, Bool.not_true, Bool.false_or, Bool.and_eq_true, decide_eq_true_eq, beq_iff_eq] at h1
  exact h1
theorem ct_t6_0 {a : Nat} (h : ct_K 6 a) : ct_K 10 (a + 7) := by
  have h1 := ct_all (fun a => !(ct_kd a == 6) || (decide (a + 7 < ct_NN) && ct_kd (a + 7) == 10)) (by decide +kernel) h.1
  simp only [h.2, beq_self_eq_true, Bool.not_true, Bool.false_or, Bool.and_eq_true, decide_eq_true_eq, beq_iff_eq] at h1
  exact h1
theorem ct_t6_1 {a : Nat} (h : ct_K 6 a) : ct_K 2 (a + 1) := by
  have h1 := ct_all (fun a => !(ct_kd a == 6) || (decide (a + 1 < ct_NN) && ct_kd (a + 1) == 2)) (by decide +kernel) h.1
  simp only [h.2, beq_self_eq_true, Bool.not_true, Bool.false_or, Bool.and_eq_true, decide_eq_true_eq, beq_iff_eq] at h1
  exact h1
theorem ct_t6_2 {a : Nat} (h : ct_K 6 a) : ct_K 2 (a + 4) := by
  have h1 := ct_all (fun a => !(ct_kd a == 6) || (decide (a + 4 < ct_NN) && ct_kd (a + 4) == 2)) (by decide +kernel) h.1
  simp only [h.2, beq_self_eq_true, Bool.not_true, Bool.false_or, Bool.and_eq_true, decide_eq_true_eq, beq_iff_eq] at h1
  exact h1
theorem ct_t7_4 {a : Nat} (h : ct_K 7 a) : ct_K 13 (a + 1) := by
  have h1 := ct_all (fun a => !(ct_kd a == 7) || (decide (a + 1 < ct_NN) && ct_kd (a + 1) == 13)) (by decide +kernel) h.1
  simp only [h.2, beq_self_eq_true, Bool.not_true, Bool.false_or, Bool.and_eq_true, decide_eq_true_eq, beq_iff_eq] at h1
  exact h1
theorem ct_t8_0 {a : Nat} (h : ct_K 8 a) : ct_K 13 (a + 1) := by
  have h1 := ct_all (fun a => !(ct_kd a == 8) || (decide (a + 1 < ct_NN) && ct_kd (a + 1) == 13)) (by decide +kernel) h.1
  simp only [h.2, beq_self_eq_true, Bool.not_true, Bool.false_or, Bool.and_eq_true, decide_eq_true_eq, beq_iff_eq] at h1
  exact h1
theorem ct_t8_2 {a : Nat} (h : ct_K 8 a) : ct_K 7 (a + 2) := by
  have h1 := ct_all (fun a => !(ct_kd a == 8) || (decide (a + 2 < ct_NN) && ct_kd (a + 2) == 7)) (by decide +kernel) h.1
  simp only [h.2, beq_self_eq_true, Bool.not_true, Bool.false_or, Bool.and_eq_true, decide_eq_true_eq, beq_iff_eq] at h1
  exact h1
theorem ct_t9_0 {a : Nat} (h : ct_K 9 a) : ct_K 5 (ct_pg a) := by
  have h1 := ct_all (fun a => !(ct_kd a == 9) || (decide (ct_pg a < ct_NN) && ct_kd (ct_pg a) == 5)) (by decide +kernel) h.1
  simp only [h.2, beq_self_eq_true, Bool.not_true, Bool.false_or, Bool.and_eq_true, decide_eq_true_eq, beq_iff_eq] at h1
  exact h1
theorem ct_t9_6 {a : Nat} (h : ct_K 9 a) : ct_K 0 (a + 1) := by
  have h1 := ct_all (fun a => !(ct_kd a == 9) || (decide (a + 1 < ct_NN) && ct_kd (a + 1) == 0)) (by decide +kernel) h.1
  simp only [h.2, beq_self_eq_true, Bool.not_true, Bool.false_or, Bool.and_eq_true, decide_eq_true_eq, beq_iff_eq] at h1
  exact h1
theorem ct_t9_7 {a : Nat} (h : ct_K 9 a) : ct_K 0 (a + 3) := by
  have h1 := ct_all (fun a => !(ct_kd a == 9) || (decide (a + 3 < ct_NN) && ct_kd (a + 3) == 0)) (by decide +kernel) h.1
  simp only [h.2, beq_self_eq_true, Bool.not_true, Bool.false_or, Bool.and_eq_true, decide_eq_true_eq, beq_iff_eq] at h1
  exact h1
theorem ct_t9_8 {a : Nat} (h : ct_K 9 a) : ct_K 17 (a + 5) := by
  have h1 := ct_all (fun a => !(ct_kd a == 9) || (decide (a + 5 < ct_NN) && ct_kd (a + 5) == 17)) (by decide +kernel) h.1
  simp only [h.2, beq_self_eq_true, Bool.not_true, Bool.false_or, Bool.and_eq_true, decide_eq_true_eq, beq_iff_eq] at h1
  exact h1
theorem ct_t10_0 {a : Nat} (h : ct_K 10 a) : ct_K 14 (a + 1) := by
  have h1 := ct_all (fun a => !(ct_kd a == 10) || (decide (a + 1 < ct_NN) && ct_kd (a + 1) == 14)) (by decide +kernel) h.1
  simp only [h.2, beq_self_eq_true, Bool.not_true, Bool.false_or, Bool.and_eq_true, decide_eq_true_eq, beq_iff_eq] at h1
  exact h1
theorem ct_t10_1 {a : Nat} (h : ct_K 10 a) : ct_K 14 (a + 2) := by
  have h1 := ct_all (fun a => !(ct_kd a == 10) || (decide (a + 2 < ct_NN) && ct_kd (a + 2) == 14)) (by decide +kernel) h.1
  simp only [h.2, beq_self_eq_true, Bool.not_true, Bool.false_or, Bool.and_eq_true, decide_eq_true_eq, beq_iff_eq] at h1
  exact h1
theorem ct_t10_2 {a : Nat} (h : ct_K 10 a) : ct_K 19 (a + 3) := by
  have h1 := ct_all (fun a => !(ct_kd a == 10) || (decide (a + 3 < ct_NN) && ct_kd (a + 3) == 19)) (by decide +kernel) h.1
  simp only [h.2, beq_self_eq_true, Bool.not_true, Bool.false_or, Bool.and_eq_true, decide_eq_true_eq, beq_iff_eq] at h1
  exact h1
theorem ct_t10_4 {a : Nat} (h : ct_K 10 a) : ct_K 14 (a + 4) := by
  have h1 := ct_all (fun a => !(ct_kd a == 10) || (decide (a + 4 < ct_NN) && ct_kd (a + 4) == 14)) (by decide +kernel) h.1
  simp only [h.2, beq_self_eq_true, Bool.not_true, Bool.false_or, Bool.and_eq_true, decide_eq_true_eq, beq_iff_eq] at h1
  exact h1
theorem ct_t10_5 {a : Nat} (h : ct_K 10 a) : ct_K 14 (a + 5) := by
  have h1 := ct_all (fun a => !(ct_kd a == 10) || (decide (a + 5 < ct_NN) && ct_kd (a + 5) == 14)) (by decide +kernel) h.1
  simp only [h.2, beq_self_eq_true, Bool.not_true, Bool.false_or, Bool.and_eq_true, decide_eq_true_eq, beq_iff_eq] at h1
  exact h1
theorem ct_t10_6 {a : Nat} (h : ct_K 10 a) : ct_K 14 (a + 6) := by
  have h1 := ct_all (fun a => !(ct_kd a == 10) || (decide (a + 6 < ct_NN) && ct_kd (a + 6) == 14)) (by decide +kernel) h.1
  simp only [h.2, beq_self_eq_true, Bool.not_true, Bool.false_or, Bool.and_eq_true, decide_eq_true_eq, beq_iff_eq] at h1
  exact h1
theorem ct_t11_0 {a : Nat} (h : ct_K 11 a) : ct_K 8 (a + 1) := by
  have h1 := ct_all (fun a => !(ct_kd a == 11) || (decide (a + 1 < ct_NN) && ct_kd (a + 1) == 8)) (by decide +kernel) h.1
  simp only [h.2, beq_self_eq_true, Bool.not_true, Bool.false_or, Bool.and_eq_true, decide_eq_true_eq, beq_iff_eq] at h1
  exact h1
theorem ct_t11_1 {a : Nat} (h : ct_K 11 a) : ct_K 18 (a + 5) := by
  have h1 := ct_all (fun a => !(ct_kd a == 11) || (decide (a + 5 < ct_NN) && ct_kd (a + 5) == 18)) (by decide +kernel) h.1
  simp only [h.2, beq_self_eq_true, Bool.not_true, Bool.false_or, Bool.and_eq_true, decide_eq_true_eq, beq_iff_eq] at h1
  exact h1
theorem ct_t11_2 {a : Nat} (h : ct_K 11 a) : ct_K 10 (a + 26) := by
  have h1 := ct_all (fun a => !(ct_kd a == 11) || (decide (a + 26 < ct_NN) && ct_kd (a + 26) == 10)) (by decide +kernel) h.1
  simp only [h.2, beq_self_eq_true, Bool.not_true, Bool.false_or, Bool.and_eq_true, decide_eq_true_eq, beq_iff_eq] at h1
  exact h1
theorem ct_t11_3 {a : Nat} (h : ct_K 11 a) : ct_K 1 (a + 78) := by
  have h1 := ct_all (fun a => !(ct_kd a == 11) || (decide (a + 78 < ct_NN) && ct_kd (a + 78) == 1)) (by decide +kernel) h.1
  simp only [h.2, beq_self_eq_true, Bool.not_true, Bool.false_or, Bool.and_eq_true, decide_eq_true_eq, beq_iff_eq] at h1
  exact h1
theorem ct_t11_4 {a : Nat} (h : ct_K 11 a) : ct_K 20 (a + 6) := by
  have h1 := ct_all (fun a => !(ct_kd a == 11) || (decide (a + 6 < ct_NN) && ct_kd (a + 6) == 20)) (by decide +kernel) h.1
  simp only [h.2, beq_self_eq_true, Bool.not_true, Bool.false_or, Bool.and_eq_true, decide_eq_true_eq, beq_iff_eq] at h1
  exact h1
theorem ct_t11_5 {a : Nat} (h : ct_K 11 a) : ct_K 16 (a + 7) := by
  have h1 := ct_all (fun a => !(ct_kd a == 11) || (decide (a + 7 < ct_NN) && ct_kd (a + 7) == 16)) (by decide +kernel) h.1
  simp only [h.2, beq_self_eq_true, Bool.not_true, Bool.false_or, Bool.and_eq_true, decide_eq_true_eq, beq_iff_eq] at h1
  exact h1
theorem ct_t11_6 {a : Nat} (h : ct_K 11 a) : ct_K 10 (a + 912) := by
  have h1 := ct_all (fun a => !(ct_kd a == 11) || (decide (a + 912 < ct_NN) && ct_kd (a + 912) == 10)) (by decide +kernel) h.1
  simp only [h.2, beq_self_eq_true, Bool.not_true, Bool.false_or, Bool.and_eq_true, decide_eq_true_eq, beq_iff_eq] at h1
  exact h1
theorem ct_t11_7 {a : Nat} (h : ct_K 11 a) : ct_K 3 (a + 8) := by
  have h1 := ct_all (fun a => !(ct_kd a == 11) || (decide (a + 8 < ct_NN) && ct_kd (a + 8) == 3)) (by decide +kernel) h.1
  simp only [h.2, beq_self_eq_true, Bool.not_true, Bool.false_or, Bool.and_eq_true, decide_eq_true_eq, beq_iff_eq] at h1
  exact h1
theorem ct_t11_8 {a : Nat} (h : ct_K 11 a) : ct_K 6 (a + 964) := by
  have h1 := ct_all (fun a => !(ct_kd a == 11) || (decide (a + 964 < ct_NN) && ct_kd (a + 964) == 6)) (by decide +kernel) h.1
  simp only [h.2, beq_self_eq_true, Bool.not_true, Bool.false_or, Bool.and_eq_true, decide_eq_true_eq, beq_iff_eq] at h1
  exact h1
theorem ct_t12_1 {a : Nat} (h : ct_K 12 a) : ct_K 14 (a + 1) := by
  have h1 := ct_all (fun a => !(ct_kd a == 12) || (decide (a + 1 < ct_NN) && ct_kd (a + 1) == 14)) (by decide +kernel) h.1
  simp only [h.2, beq_self_eq_true, Bool.not_true, Bool.false_or, Bool.and_eq_true, decide_eq_true_eq, beq_iff_eq] at h1
  exact h1
theorem ct_t12_5 {a : Nat} (h : ct_K 12 a) : ct_K 14 (a + 2) := by
  have h1 := ct_all (fun a => !(ct_kd a == 12) || (decide (a + 2 < ct_NN) && ct_kd (a + 2) == 14)) (by decide +kernel) h.1
  simp only [h.2, beq_self_eq_true, Bool.not_true, Bool.false_or, Bool.and_eq_true, decide_eq_true_eq, beq_iff_eq] at h1
  exact h1
theorem ct_t12_6 {a : Nat} (h : ct_K 12 a) : ct_K 14 (a + 3) := by
  have h1 := ct_all (fun a => !(ct_kd a == 12) || (decide (a + 3 < ct_NN) && ct_kd (a + 3) == 14)) (by decide +kernel) h.1
  simp only [h.2, beq_self_eq_true, Bool.not_true, Bool.false_or, Bool.and_eq_true, decide_eq_true_eq, beq_iff_eq] at h1
  exact h1
theorem ct_t12_7 {a : Nat} (h : ct_K 12 a) : ct_K 14 (a + 4) := by
  have h1 := ct_all (fun a => !(ct_kd a == 12) || (decide (a + 4 < ct_NN) && ct_kd (a + 4) == 14)) (by decide +kernel) h.1
  simp only [h.2, beq_self_eq_true, Bool.not_true, Bool.false_or, Bool.and_eq_true, decide_eq_true_eq, beq_iff_eq] at h1
  exact h1
theorem ct_t12_8 {a : Nat} (h : ct_K 12 a) : ct_K 14 (a + 5) := by
  have h1 := ct_all (fun a => !(ct_kd a == 12) || (decide (a + 5 < ct_NN) && ct_kd (a + 5) == 14)) (by decide +kernel) h.1
  simp only [h.2, beq_self_eq_true, Bool.not_true, Bool.false_or, Bool.and_eq_true, decide_eq_true_eq, beq_iff_eq] at h1
  exact h1
theorem ct_t12_9 {a : Nat} (h : ct_K 12 a) : ct_K 14 (a + 6) := by
  have h1 := ct_all (fun a => !(ct_kd a == 12) || (decide (a + 6 < ct_NN) && ct_kd (a + 6) == 14)) (by decide +kernel) h.1
  simp only [h.2, beq_self_eq_true, Bool.not_true, Bool.false_or, Bool.and_eq_true, decide_eq_true_eq, beq_iff_eq] at h1
  exact h1
theorem ct_t12_10 {a : Nat} (h : ct_K 12 a) : ct_K 14 (a + 7) := by
  have h1 := ct_all (fun a => !(ct_kd a == 12) || (decide (a + 7 < ct_NN) && ct_kd (a + 7) == 14)) (by decide +kernel) h.1
  simp only [h.2, beq_self_eq_true, Bool.not_true, Bool.false_or, Bool.and_eq_true, decide_eq_true_eq, beq_iff_eq] at h1
  exact h1
theorem ct_t12_11 {a : Nat} (h : ct_K 12 a) : ct_K 14 (a + 8) := by
  have h1 := ct_all (fun a => !(ct_kd a == 12) || (decide (a + 8 < ct_NN) && ct_kd (a + 8) == 14)) (by decide +kernel) h.1
  simp only [h.2, beq_self_eq_true, Bool.not_true, Bool.false_or, Bool.and_eq_true, decide_eq_true_eq, beq_iff_eq] at h1
  exact h1
theorem ct_t12_12 {a : Nat} (h : ct_K 12 a) : ct_K 14 (a + 9) := by
  have h1 := ct_all (fun a => !(ct_kd a == 12) || (decide (a + 9 < ct_NN) && ct_kd (a + 9) == 14)) (by decide +kernel) h.1
  simp only [h.2, beq_self_eq_true, Bool.not_true, Bool.false_or, Bool.and_eq_true, decide_eq_true_eq, beq_iff_eq] at h1
  exact h1
theorem ct_t12_14 {a : Nat} (h : ct_K 12 a) : ct_K 14 (a + 10) := by
  have h1 := ct_all (fun a => !(ct_kd a == 12) || (decide (a + 10 < ct_NN) && ct_kd (a + 10) == 14)) (by decide +kernel) h.1
  simp only [h.2, beq_self_eq_true, Bool.not_true, Bool.false_or, Bool.and_eq_true, decide_eq_true_eq, beq_iff_eq] at h1
  exact h1
theorem ct_t12_15 {a : Nat} (h : ct_K 12 a) : ct_K 16 (a + 11) := by
  have h1 := ct_all (fun a => !(ct_kd a == 12) || (decide (a + 11 < ct_NN) && ct_kd (a + 11) == 16)) (by decide +kernel) h.1
  simp only [h.2, beq_self_eq_true, Bool.not_true, Bool.false_or, Bool.and_eq_true, decide_eq_true_eq, beq_iff_eq] at h1
  exact h1
theorem ct_t12_17 {a : Nat} (h : ct_K 12 a) : ct_K 14 (a + 12) := by
  have h1 := ct_all (fun a => !(ct_kd a == 12) || (decide (a + 12 < ct_NN) && ct_kd (a + 12) == 14)) (by decide +kernel) h.1
  simp only [h.2, beq_self_eq_true, Bool.not_true, Bool.false_or, Bool.and_eq_true, decide_eq_true_eq, beq_iff_eq] at h1
  exact h1
theorem ct_t12_18 {a : Nat} (h : ct_K 12 a) : ct_K 14 (a + 13) := by
  have h1 := ct_all (fun a => !(ct_kd a == 12) || (decide (a + 13 < ct_NN) && ct_kd (a + 13) == 14)) (by decide +kernel) h.1
  simp only [h.2, beq_self_eq_true, Bool.not_true, Bool.false_or, Bool.and_eq_true, decide_eq_true_eq, beq_iff_eq] at h1
  exact h1
theorem ct_t12_20 {a : Nat} (h : ct_K 12 a) : ct_K 14 (a + 14) := by
  have h1 := ct_all (fun a => !(ct_kd a == 12) || (decide (a + 14 < ct_NN) && ct_kd (a + 14) == 14)) (by decide +kernel) h.1
  simp only [h.2, beq_self_eq_true, Bool.not_true, Bool.false_or, Bool.and_eq_true, decide_eq_true_eq, beq_iff_eq] at h1
  exact h1
theorem ct_t12_21 {a : Nat} (h : ct_K 12 a) : ct_K 14 (a + 15) := by
  have h1 := ct_all (fun a => !(ct_kd a == 12) || (decide (a + 15 < ct_NN) && ct_kd (a + 15) == 14)) (by decide +kernel) h.1
  simp only [h.2, beq_self_eq_true, Bool.not_true, Bool.false_or, Bool.and_eq_true, decide_eq_true_eq, beq_iff_eq] at h1
  exact h1
theorem ct_t12_22 {a : Nat} (h : ct_K 12 a) : ct_K 14 (a + 16) := by
  have h1 := ct_all (fun a => !(ct_kd a == 12) || (decide (a + 16 < ct_NN) && ct_kd (a + 16) == 14)) (by decide +kernel) h.1
  simp only [h.2, beq_self_eq_true, Bool.not_true, Bool.false_or, Bool.and_eq_true, decide_eq_true_eq, beq_iff_eq] at h1
  exact h1
theorem ct_t12_23 {a : Nat} (h : ct_K 12 a) : ct_K 14 (a + 17) := by
  have h1 := ct_all (fun a => !(ct_kd a == 12) || (decide (a + 17 < ct_NN) && ct_kd (a + 17) == 14)) (by decide +kernel) h.1
  simp only [h.2, beq_self_eq_true, Bool.not_true, Bool.false_or, Bool.and_eq_true, decide_eq_true_eq, beq_iff_eq] at h1
  exact h1
theorem ct_t12_24 {a : Nat} (h : ct_K 12 a) : ct_K 14 (a + 18) := by
  have h1 := ct_all (fun a => !(ct_kd a == 12) || (decide (a + 18 < ct_NN) && ct_kd (a + 18) == 14)) (by decide +kernel) h.1
  simp only [h.2, beq_self_eq_true, Bool.not_true, Bool.false_or, Bool.and_eq_true, decide_eq_true_eq, beq_iff_eq] at h1
  exact h1
theorem ct_t12_25 {a : Nat} (h : ct_K 12 a) : ct_K 14 (a + 19) := by
  have h1 := ct_all (fun a => !(ct_kd a == 12) || (decide (a + 19 < ct_NN) && ct_kd (a + 19) == 14)) (by decide +kernel) h.1
  simp only [h.2, beq_self_eq_true, Bool.not_true, Bool.false_or, Bool.and_eq_true, decide_eq_true_eq, beq_iff_eq] at h1
  exact h1
theorem ct_t12_26 {a : Nat} (h : ct_K 12 a) : ct_K 14 (a + 20) := by
  have h1 := ct_all (fun a => !(ct_kd a == 12) || (decide (a + 20 < ct_NN) && ct_kd (a + 20) == 14)) (by decide +kernel) h.1
  simp only [h.2, beq_self_eq_true, Bool.not_true, Bool.false_or, Bool.and_eq_true, decide_eq_true_eq, beq_iff_eq] at h1
  exact h1
theorem ct_t12_27 {a : Nat} (h : ct_K 12 a) : ct_K 14 (a + 21) := by
  have h1 := ct_all (fun a => !(ct_kd a == 12) || (decide (a + 21 < ct_NN) && ct_kd (a + 21) == 14)) (by decide +kernel) h.1
  simp only [h.2, beq_self_eq_true, Bool.not_true, Bool.false_or, Bool.and_eq_true, decide_eq_true_eq, beq_iff_eq] at h1
  exact h1
theorem ct_t12_30 {a : Nat} (h : ct_K 12 a) : ct_K 15 (a + 22) := by
  have h1 := ct_all (fun a => !(ct_kd a == 12) || (decide (a + 22 < ct_NN) && ct_kd (a + 22) == 15)) (by decide +kernel) h.1
  simp only [h.2, beq_self_eq_true, Bool.not_true, Bool.false_or, Bool.and_eq_true, decide_eq_true_eq, beq_iff_eq] at h1
  exact h1
theorem ct_t12_32 {a : Nat} (h : ct_K 12 a) : ct_K 15 (a + 23) := by
  have h1 := ct_all (fun a => !(ct_kd a == 12) || (decide (a + 23 < ct_NN) && ct_kd (a + 23) == 15)) (by decide +kernel) h.1
  simp only [h.2, beq_self_eq_true, Bool.not_true, Bool.false_or, Bool.and_eq_true, decide_eq_true_eq, beq_iff_eq] at h1
  exact h1
theorem ct_e17 {a i : Nat} (h : ct_K 17 a) (hi : i < ct_ln a) : ct_K 4 (a + 1 + 3 * i) := by
  have h1 := ct_all (fun a => !(ct_kd a == 17) || (List.range (ct_ln a)).all (fun i => decide (a + 1 + 3 * i < ct_NN) && ct_kd (a + 1 + 3 * i) == 4)) (by decide +kernel) h.1
  simp only [h.2, beq_self_eq_true, Bool.not_true, Bool.false_or] at h1
  have h2 := List.all_eq_true.mp h1 i (List.mem_range.mpr hi)
  simp only [Bool.and_eq_true, decide_eq_true_eq, beq_iff_eq] at h2
  exact h2
theorem ct_e18 {a i : Nat} (h : ct_K 18 a) (hi : i < ct_ln a) : ct_K 5 (a + 6 + 5 * i) := by
  have h1 := ct_all (fun a => !(ct_kd a == 18) || (List.range (ct_ln a)).all (fun i => decide (a + 6 + 5 * i < ct_NN) && ct_kd (a + 6 + 5 * i) == 5)) (by decide +kernel) h.1
  simp only [h.2, beq_self_eq_true, Bool.not_true, Bool.false_or] at h1
  have h2 := List.all_eq_true.mp h1 i (List.mem_range.mpr hi)
  simp only [Bool.and_eq_true, decide_eq_true_eq, beq_iff_eq] at h2
  exact h2
theorem ct_e19 {a i : Nat} (h : ct_K 19 a) (hi : i < ct_ln a) : ct_K 9 (a + 4 + 15 * i) := by
  have h1 := ct_all (fun a => !(ct_kd a == 19) || (List.range (ct_ln a)).all (fun i => decide (a + 4 + 15 * i < ct_NN) && ct_kd (a + 4 + 15 * i) == 9)) (by decide +kernel) h.1
  simp only [h.2, beq_self_eq_true, Bool.not_true, Bool.false_or] at h1
  have h2 := List.all_eq_true.mp h1 i (List.mem_range.mpr hi)
  simp only [Bool.and_eq_true, decide_eq_true_eq, beq_iff_eq] at h2
  exact h2
theorem ct_e20 {a i : Nat} (h : ct_K 20 a) (hi : i < ct_ln a) : ct_K 10 (ct_elW a i) := by
  have h1 := ct_all (fun a => !(ct_kd a == 20) || (List.range (ct_ln a)).all (fun i => decide (ct_elW a i < ct_NN) && ct_kd (ct_elW a i) == 10)) (by decide +kernel) h.1
  simp only [h.2, beq_self_eq_true, Bool.not_true, Bool.false_or] at h1
  have h2 := List.all_eq_true.mp h1 i (List.mem_range.mpr hi)
  simp only [Bool.and_eq_true, decide_eq_true_eq, beq_iff_eq] at h2
  exact h2
/-! the nest's links, which no word list carries -/
def ct_nest : List Cond := [.methodLinkNest RX11 9 yX8_init RX11, .methodLinkNest RX8 17 yX7_init RX11, .methodLinkNest RX11 34 yX3_init RX11, .methodLinkNest RX11 39 yX5_init RX11, .methodLinkNest RX9 11 yX0_init RX11, .methodLinkNest RX9 31 yX4_init RX11, .methodLinkNest RX4 9 yX0_init RX11, .methodLinkNest RX6 13 yX2_init RX11, .methodLinkNest RX10 62 yX11_isCell RX11, .methodLinkNest RX0 19 yX11_isCell RX11, .methodLinkNest RX10 120 yX11_clamp RX11]
def ct_NK (U : State) : Prop := (∀ w ∈ ct_nest, va_Nw w U) ∧ va_AO "CellTransactions$OpenBlock" U ∧ va_AO "CellTransactions$Program" U ∧ va_AO "CellTransactions$Worker" U ∧ va_AO "CellTransactions$World" U
theorem ct_NK_warm {s U : State} (hW : s.WarmedH U.vm) (h : ct_NK s) : ct_NK U := by
  refine ⟨fun w hw => ?_, h.2.1.moved hW.alike, h.2.2.1.moved hW.alike, h.2.2.2.1.moved hW.alike, h.2.2.2.2.moved hW.alike⟩
  have h1 := h.1 w hw
  simp only [ct_nest, List.mem_cons, List.not_mem_nil, or_false] at hw
  rcases hw with rfl | rfl | rfl | rfl | rfl | rfl | rfl | rfl | rfl | rfl | rfl <;> exact va_Nw.warmM hW h1
theorem ct_NK_same {u U : State} (hv : u.vm = U.vm) (h : ct_NK u) : ct_NK U := by
  have ha : u.vm.Alike U.vm := hv ▸ Vm.Alike.refl u.vm
  refine ⟨fun w hw => ?_, h.2.1.moved ha, h.2.2.1.moved ha, h.2.2.2.1.moved ha, h.2.2.2.2.moved ha⟩
  have h1 := h.1 w hw
  simp only [ct_nest, List.mem_cons, List.not_mem_nil, or_false] at hw
  rcases hw with rfl | rfl | rfl | rfl | rfl | rfl | rfl | rfl | rfl | rfl | rfl <;> exact va_Nw.same rfl hv h1
/-- the pool in a state -/
def ct_P (D : va_G) (cy : Nat → ClassId) (o N : Nat) (m : ct_M) (U : State) : Prop := va_P D vwCl (ct_pw cy o N m) U.heap ∧ va_K D vwCl (ct_tys cy) U ∧ ct_NK U
abbrev ct_ws (y : MethodName) (cc : ByteArray) (n : Nat) (ret : Option FieldType) : List Cond := .code y cc n ret :: ct_UW
theorem ct_good : ∀ w ∈ ct_UW, (w.onTables && w.keeps) = true ∨ ∃ ty, w = .arrayClass ty := fun _ h => good_of_word (List.mem_filter.mp h).2
theorem ct_GI {ws : List Cond} (h : ∀ w ∈ ws, w ∈ ct_UW) : GoodIn ct_UW ws := fun w hw => ⟨h w hw, ct_good w (h w hw)⟩
def ct_Cx (p : Program) (s : State) (mth : MethodId) (c : Code) (cc : ByteArray) (nL : Nat) (args : Array Value) (own : String) (D : va_G) (cy : Nat → ClassId) : Prop :=
  p.tables.exec = Jvm.exec ∧ c.code = cc ∧ c.maxLocals = nL ∧ s.vm.findClass own = some mth.cls ∧ (∀ w ∈ ct_UW, w.before args s = true) ∧ va_K D vwCl (ct_tys cy) s ∧ ct_NK s
/-- from here on the method comes to QQ: the pool holds m, the locals lv, the stack st -/
def ct_J (p : Program) (l : Launch) (e : Env) (R : Room) (s : State) (mth : MethodId) (args : Array Value) (below : List Frame) (meth : Method) (c : Code) (nL : Nat) (D : va_G) (cy : Nat → ClassId) (o N kc ks : Nat) (QQ : State → Prop) (m : ct_M) (pc : Nat) (lv : List (Nat × Value)) (st : List Value) : Prop :=
  ∀ (H : Heap) (locs : List Loc) (ls : Array Slot), va_P D vwCl (ct_pw cy o N m) H → va_S (fun q => o ≤ q) s.heap H locs → lv_has ls nL lv → W p l e R s mth args below meth c H locs kc ks QQ (F0 mth pc ls st)
section CTJ
variable {p : Program} {l : Launch} {e : Env} {R : Room} {s : State} {mth : MethodId} {args : Array Value} {below : List Frame} {meth : Method} {c : Code} {cc : ByteArray} {nL : Nat} {own : String} {D : va_G} {cy : Nat → ClassId} {o N kc ks : Nat} {QQ : State → Prop} {m : ct_M} {pc : Nat} {lv : List (Nat × Value)} {st : List Value}
theorem ct_iadd (C : ct_Cx p s mth c cc nL args own D cy) {x y : Int32} (d : decode cc pc = .ok (.iadd, 1)) (kk : ct_J p l e R s mth args below meth c nL D cy o N kc ks QQ m (pc + 1) lv (.int (x + y) :: st)) : ct_J p l e R s mth args below meth c nL D cy o N kc ks QQ m pc lv (.int y :: .int x :: st) := fun H locs ls hP hS hl => lv_iadd C.1 C.2.1 d (kk H locs ls hP hS hl)
theorem ct_isub (C : ct_Cx p s mth c cc nL args own D cy) {x y : Int32} (d : decode cc pc = .ok (.isub, 1)) (kk : ct_J p l e R s mth args below meth c nL D cy o N kc ks QQ m (pc + 1) lv (.int (x - y) :: st)) : ct_J p l e R s mth args below meth c nL D cy o N kc ks QQ m pc lv (.int y :: .int x :: st) := fun H locs ls hP hS hl => lv_isub C.1 C.2.1 d (kk H locs ls hP hS hl)
theorem ct_imul (C : ct_Cx p s mth c cc nL args own D cy) {x y : Int32} (d : decode cc pc = .ok (.imul, 1)) (kk : ct_J p l e R s mth args below meth c nL D cy o N kc ks QQ m (pc + 1) lv (.int (x * y) :: st)) : ct_J p l e R s mth args below meth c nL D cy o N kc ks QQ m pc lv (.int y :: .int x :: st) := fun H locs ls hP hS hl => lv_imul C.1 C.2.1 d (kk H locs ls hP hS hl)
theorem ct_iand (C : ct_Cx p s mth c cc nL args own D cy) {x y : Int32} (d : decode cc pc = .ok (.iand, 1)) (kk : ct_J p l e R s mth args below meth c nL D cy o N kc ks QQ m (pc + 1) lv (.int (x &&& y) :: st)) : ct_J p l e R s mth args below meth c nL D cy o N kc ks QQ m pc lv (.int y :: .int x :: st) := fun H locs ls hP hS hl => lv_iand C.1 C.2.1 d (kk H locs ls hP hS hl)
theorem ct_ior (C : ct_Cx p s mth c cc nL args own D cy) {x y : Int32} (d : decode cc pc = .ok (.ior, 1)) (kk : ct_J p l e R s mth args below meth c nL D cy o N kc ks QQ m (pc + 1) lv (.int (x ||| y) :: st)) : ct_J p l e R s mth args below meth c nL D cy o N kc ks QQ m pc lv (.int y :: .int x :: st) := fun H locs ls hP hS hl => lv_ior C.1 C.2.1 d (kk H locs ls hP hS hl)
theorem ct_idiv (C : ct_Cx p s mth c cc nL args own D cy) {x y : Int32} (d : decode cc pc = .ok (.idiv, 1)) (hne : ¬ y = 0) (kk : ct_J p l e R s mth args below meth c nL D cy o N kc ks QQ m (pc + 1) lv (.int (x / y) :: st)) : ct_J p l e R s mth args below meth c nL D cy o N kc ks QQ m pc lv (.int y :: .int x :: st) := fun H locs ls hP hS hl => lv_idiv C.1 C.2.1 d hne (kk H locs ls hP hS hl)
theorem ct_irem (C : ct_Cx p s mth c cc nL args own D cy) {x y : Int32} (d : decode cc pc = .ok (.irem, 1)) (hne : ¬ y = 0) (kk : ct_J p l e R s mth args below meth c nL D cy o N kc ks QQ m (pc + 1) lv (.int (x - x / y * y) :: st)) : ct_J p l e R s mth args below meth c nL D cy o N kc ks QQ m pc lv (.int y :: .int x :: st) := fun H locs ls hP hS hl => lv_irem C.1 C.2.1 d hne (kk H locs ls hP hS hl)
theorem ct_ishl (C : ct_Cx p s mth c cc nL args own D cy) {x y : Int32} (d : decode cc pc = .ok (.ishl, 1)) (kk : ct_J p l e R s mth args below meth c nL D cy o N kc ks QQ m (pc + 1) lv (.int (x <<< (y &&& 31)) :: st)) : ct_J p l e R s mth args below meth c nL D cy o N kc ks QQ m pc lv (.int y :: .int x :: st) := fun H locs ls hP hS hl => lv_ishl C.1 C.2.1 d (kk H locs ls hP hS hl)
theorem ct_ishr (C : ct_Cx p s mth c cc nL args own D cy) {x y : Int32} (d : decode cc pc = .ok (.ishr, 1)) (kk : ct_J p l e R s mth args below meth c nL D cy o N kc ks QQ m (pc + 1) lv (.int (x >>> (y &&& 31)) :: st)) : ct_J p l e R s mth args below meth c nL D cy o N kc ks QQ m pc lv (.int y :: .int x :: st) := fun H locs ls hP hS hl => lv_ishr C.1 C.2.1 d (kk H locs ls hP hS hl)
theorem ct_ladd (C : ct_Cx p s mth c cc nL args own D cy) {x y : Int64} (d : decode cc pc = .ok (.ladd, 1)) (kk : ct_J p l e R s mth args below meth c nL D cy o N kc ks QQ m (pc + 1) lv (.long (x + y) :: st)) : ct_J p l e R s mth args below meth c nL D cy o N kc ks QQ m pc lv (.long y :: .long x :: st) := fun H locs ls hP hS hl => lv_ladd C.1 C.2.1 d (kk H locs ls hP hS hl)
theorem ct_lsub (C : ct_Cx p s mth c cc nL args own D cy) {x y : Int64} (d : decode cc pc = .ok (.lsub, 1)) (kk : ct_J p l e R s mth args below meth c nL D cy o N kc ks QQ m (pc + 1) lv (.long (x - y) :: st)) : ct_J p l e R s mth args below meth c nL D cy o N kc ks QQ m pc lv (.long y :: .long x :: st) := fun H locs ls hP hS hl => lv_lsub C.1 C.2.1 d (kk H locs ls hP hS hl)
theorem ct_lmul (C : ct_Cx p s mth c cc nL args own D cy) {x y : Int64} (d : decode cc pc = .ok (.lmul, 1)) (kk : ct_J p l e R s mth args below meth c nL D cy o N kc ks QQ m (pc + 1) lv (.long (x * y) :: st)) : ct_J p l e R s mth args below meth c nL D cy o N kc ks QQ m pc lv (.long y :: .long x :: st) := fun H locs ls hP hS hl => lv_lmul C.1 C.2.1 d (kk H locs ls hP hS hl)
theorem ct_land (C : ct_Cx p s mth c cc nL args own D cy) {x y : Int64} (d : decode cc pc = .ok (.land, 1)) (kk : ct_J p l e R s mth args below meth c nL D cy o N kc ks QQ m (pc + 1) lv (.long (x &&& y) :: st)) : ct_J p l e R s mth args below meth c nL D cy o N kc ks QQ m pc lv (.long y :: .long x :: st) := fun H locs ls hP hS hl => lv_land C.1 C.2.1 d (kk H locs ls hP hS hl)
theorem ct_lor (C : ct_Cx p s mth c cc nL args own D cy) {x y : Int64} (d : decode cc pc = .ok (.lor, 1)) (kk : ct_J p l e R s mth args below meth c nL D cy o N kc ks QQ m (pc + 1) lv (.long (x ||| y) :: st)) : ct_J p l e R s mth args below meth c nL D cy o N kc ks QQ m pc lv (.long y :: .long x :: st) := fun H locs ls hP hS hl => lv_lor C.1 C.2.1 d (kk H locs ls hP hS hl)
theorem ct_ldiv (C : ct_Cx p s mth c cc nL args own D cy) {x y : Int64} (d : decode cc pc = .ok (.ldiv, 1)) (hne : ¬ y = 0) (kk : ct_J p l e R s mth args below meth c nL D cy o N kc ks QQ m (pc + 1) lv (.long (x / y) :: st)) : ct_J p l e R s mth args below meth c nL D cy o N kc ks QQ m pc lv (.long y :: .long x :: st) := fun H locs ls hP hS hl => lv_ldiv C.1 C.2.1 d hne (kk H locs ls hP hS hl)
theorem ct_lrem (C : ct_Cx p s mth c cc nL args own D cy) {x y : Int64} (d : decode cc pc = .ok (.lrem, 1)) (hne : ¬ y = 0) (kk : ct_J p l e R s mth args below meth c nL D cy o N kc ks QQ m (pc + 1) lv (.long (x - x / y * y) :: st)) : ct_J p l e R s mth args below meth c nL D cy o N kc ks QQ m pc lv (.long y :: .long x :: st) := fun H locs ls hP hS hl => lv_lrem C.1 C.2.1 d hne (kk H locs ls hP hS hl)
theorem ct_lshl (C : ct_Cx p s mth c cc nL args own D cy) {x : Int64} {y : Int32} (d : decode cc pc = .ok (.lshl, 1)) (kk : ct_J p l e R s mth args below meth c nL D cy o N kc ks QQ m (pc + 1) lv (.long (x <<< (y.toInt64 &&& 63)) :: st)) : ct_J p l e R s mth args below meth c nL D cy o N kc ks QQ m pc lv (.int y :: .long x :: st) := fun H locs ls hP hS hl => lv_lshl C.1 C.2.1 d rfl (kk H locs ls hP hS hl)
theorem ct_lshr (C : ct_Cx p s mth c cc nL args own D cy) {x : Int64} {y : Int32} (d : decode cc pc = .ok (.lshr, 1)) (kk : ct_J p l e R s mth args below meth c nL D cy o N kc ks QQ m (pc + 1) lv (.long (x >>> (y.toInt64 &&& 63)) :: st)) : ct_J p l e R s mth args below meth c nL D cy o N kc ks QQ m pc lv (.int y :: .long x :: st) := fun H locs ls hP hS hl => lv_lshr C.1 C.2.1 d rfl (kk H locs ls hP hS hl)
theorem ct_lushr (C : ct_Cx p s mth c cc nL args own D cy) {x : Int64} {y : Int32} (d : decode cc pc = .ok (.lushr, 1)) (kk : ct_J p l e R s mth args below meth c nL D cy o N kc ks QQ m (pc + 1) lv (.long ((x.toUInt64 >>> (y.toInt64.toUInt64 &&& Int64.toUInt64 63)).toInt64) :: st)) : ct_J p l e R s mth args below meth c nL D cy o N kc ks QQ m pc lv (.int y :: .long x :: st) := fun H locs ls hP hS hl => lv_lushr C.1 C.2.1 d rfl (kk H locs ls hP hS hl)
theorem ct_i2l (C : ct_Cx p s mth c cc nL args own D cy) {x : Int32} (d : decode cc pc = .ok (.i2l, 1)) (kk : ct_J p l e R s mth args below meth c nL D cy o N kc ks QQ m (pc + 1) lv (.long (x.toInt64) :: st)) : ct_J p l e R s mth args below meth c nL D cy o N kc ks QQ m pc lv (.int x :: st) := fun H locs ls hP hS hl => lv_i2l C.1 C.2.1 d rfl (kk H locs ls hP hS hl)
theorem ct_l2i (C : ct_Cx p s mth c cc nL args own D cy) {x : Int64} (d : decode cc pc = .ok (.l2i, 1)) (kk : ct_J p l e R s mth args below meth c nL D cy o N kc ks QQ m (pc + 1) lv (.int (x.toInt32) :: st)) : ct_J p l e R s mth args below meth c nL D cy o N kc ks QQ m pc lv (.long x :: st) := fun H locs ls hP hS hl => lv_l2i C.1 C.2.1 d rfl (kk H locs ls hP hS hl)
theorem ct_i2c (C : ct_Cx p s mth c cc nL args own D cy) {x : Int32} (d : decode cc pc = .ok (.i2c, 1)) (kk : ct_J p l e R s mth args below meth c nL D cy o N kc ks QQ m (pc + 1) lv (.int ((x.toUInt32 % 65536).toInt32) :: st)) : ct_J p l e R s mth args below meth c nL D cy o N kc ks QQ m pc lv (.int x :: st) := fun H locs ls hP hS hl => lv_i2c C.1 C.2.1 d rfl (kk H locs ls hP hS hl)
theorem ct_lcmp (C : ct_Cx p s mth c cc nL args own D cy) {x y : Int64} (d : decode cc pc = .ok (.lcmp, 1)) (kk : ct_J p l e R s mth args below meth c nL D cy o N kc ks QQ m (pc + 1) lv (.int (lg_cmp x y) :: st)) : ct_J p l e R s mth args below meth c nL D cy o N kc ks QQ m pc lv (.long y :: .long x :: st) := fun H locs ls hP hS hl => W.lcmp C.1 C.2.1 d (kk H locs ls hP hS hl)
theorem ct_iconst (C : ct_Cx p s mth c cc nL args own D cy) {n : Int} (d : decode cc pc = .ok (.iconst n, 1)) (v : Int32) (hv : Int32.ofInt n = v) (kk : ct_J p l e R s mth args below meth c nL D cy o N kc ks QQ m (pc + 1) lv (.int v :: st)) : ct_J p l e R s mth args below meth c nL D cy o N kc ks QQ m pc lv st := fun H locs ls hP hS hl => lv_iconst C.1 C.2.1 d hv (kk H locs ls hP hS hl)
theorem ct_bipush (C : ct_Cx p s mth c cc nL args own D cy) {n : Int} (d : decode cc pc = .ok (.bipush n, 2)) (v : Int32) (hv : (Int8.ofInt n).toInt32 = v) (kk : ct_J p l e R s mth args below meth c nL D cy o N kc ks QQ m (pc + 2) lv (.int v :: st)) : ct_J p l e R s mth args below meth c nL D cy o N kc ks QQ m pc lv st := fun H locs ls hP hS hl => lv_bipush C.1 C.2.1 d hv (kk H locs ls hP hS hl)
theorem ct_sipush (C : ct_Cx p s mth c cc nL args own D cy) {n : Int} (d : decode cc pc = .ok (.sipush n, 3)) (v : Int32) (hv : (Int16.ofInt n).toInt32 = v) (kk : ct_J p l e R s mth args below meth c nL D cy o N kc ks QQ m (pc + 3) lv (.int v :: st)) : ct_J p l e R s mth args below meth c nL D cy o N kc ks QQ m pc lv st := fun H locs ls hP hS hl => lv_sipush C.1 C.2.1 d hv (kk H locs ls hP hS hl)
theorem ct_lconst (C : ct_Cx p s mth c cc nL args own D cy) {n : Fin 2} (d : decode cc pc = .ok (.lconst n, 1)) (v : Int64) (hv : Int64.ofNat (n : Nat) = v) (kk : ct_J p l e R s mth args below meth c nL D cy o N kc ks QQ m (pc + 1) lv (.long v :: st)) : ct_J p l e R s mth args below meth c nL D cy o N kc ks QQ m pc lv st := fun H locs ls hP hS hl => lv_lconst C.1 C.2.1 d hv (kk H locs ls hP hS hl)
theorem ct_ldc2 (C : ct_Cx p s mth c cc nL args own D cy) {index : Nat} {v : Int64} (d : decode cc pc = .ok (.ldc2_w index, 3)) (hw : Cond.constantLong own index v ∈ ct_UW) (kk : ct_J p l e R s mth args below meth c nL D cy o N kc ks QQ m (pc + 3) lv (.long v :: st)) : ct_J p l e R s mth args below meth c nL D cy o N kc ks QQ m pc lv st := fun H locs ls hP hS hl => lv_ldc2 C.1 C.2.1 C.2.2.2.1 (C.2.2.2.2.1 _ hw) d (kk H locs ls hP hS hl)
theorem ct_iload_n (C : ct_Cx p s mth c cc nL args own D cy) {k : Fin 4} {i : Nat} {x : Int32} (d : decode cc pc = .ok (.iload_n k, 1)) (n : Nat) (hi : (k : Nat) = i) (hk : lv[n]? = some (i, .int x)) (kk : ct_J p l e R s mth args below meth c nL D cy o N kc ks QQ m (pc + 1) lv (.int x :: st)) : ct_J p l e R s mth args below meth c nL D cy o N kc ks QQ m pc lv st := fun H locs ls hP hS hl => lv_iload_n C.1 C.2.1 d hi (lv_at hl n hk) (kk H locs ls hP hS hl)
theorem ct_iload (C : ct_Cx p s mth c cc nL args own D cy) {i : Nat} {x : Int32} (d : decode cc pc = .ok (.iload i, 2)) (n : Nat) (hk : lv[n]? = some (i, .int x)) (kk : ct_J p l e R s mth args below meth c nL D cy o N kc ks QQ m (pc + 2) lv (.int x :: st)) : ct_J p l e R s mth args below meth c nL D cy o N kc ks QQ m pc lv st := fun H locs ls hP hS hl => lv_iload C.1 C.2.1 d (lv_at hl n hk) (kk H locs ls hP hS hl)
theorem ct_istore_n (C : ct_Cx p s mth c cc nL args own D cy) {k : Fin 4} {i : Nat} {x : Int32} (d : decode cc pc = .ok (.istore_n k, 1)) (lv' : List (Nat × Value)) (hi : (k : Nat) = i) (hn : i < nL) (hv : (i, Value.int x) :: lv.filter (fun q => !(q.1 == i) && !(q.1 + 1 == i && q.2.category == 2)) = lv') (kk : ct_J p l e R s mth args below meth c nL D cy o N kc ks QQ m (pc + 1) lv' st) : ct_J p l e R s mth args below meth c nL D cy o N kc ks QQ m pc lv (.int x :: st) := fun H locs ls hP hS hl => lv_istore_n C.1 C.2.1 d hi hl hn hv (fun ls' hl' => kk H locs ls' hP hS hl')
theorem ct_istore (C : ct_Cx p s mth c cc nL args own D cy) {i : Nat} {x : Int32} (d : decode cc pc = .ok (.istore i, 2)) (lv' : List (Nat × Value)) (hn : i < nL) (hv : (i, Value.int x) :: lv.filter (fun q => !(q.1 == i) && !(q.1 + 1 == i && q.2.category == 2)) = lv') (kk : ct_J p l e R s mth args below meth c nL D cy o N kc ks QQ m (pc + 2) lv' st) : ct_J p l e R s mth args below meth c nL D cy o N kc ks QQ m pc lv (.int x :: st) := fun H locs ls hP hS hl => lv_istore C.1 C.2.1 d hl hn hv (fun ls' hl' => kk H locs ls' hP hS hl')
theorem ct_lload_n (C : ct_Cx p s mth c cc nL args own D cy) {k : Fin 4} {i : Nat} {x : Int64} (d : decode cc pc = .ok (.lload_n k, 1)) (n : Nat) (hi : (k : Nat) = i) (hk : lv[n]? = some (i, .long x)) (kk : ct_J p l e R s mth args below meth c nL D cy o N kc ks QQ m (pc + 1) lv (.long x :: st)) : ct_J p l e R s mth args below meth c nL D cy o N kc ks QQ m pc lv st := fun H locs ls hP hS hl => lv_lload_n C.1 C.2.1 d hi (lv_at hl n hk) (kk H locs ls hP hS hl)
theorem ct_lload (C : ct_Cx p s mth c cc nL args own D cy) {i : Nat} {x : Int64} (d : decode cc pc = .ok (.lload i, 2)) (n : Nat) (hk : lv[n]? = some (i, .long x)) (kk : ct_J p l e R s mth args below meth c nL D cy o N kc ks QQ m (pc + 2) lv (.long x :: st)) : ct_J p l e R s mth args below meth c nL D cy o N kc ks QQ m pc lv st := fun H locs ls hP hS hl => lv_lload C.1 C.2.1 d (lv_at hl n hk) (kk H locs ls hP hS hl)
theorem ct_lstore_n (C : ct_Cx p s mth c cc nL args own D cy) {k : Fin 4} {i : Nat} {x : Int64} (d : decode cc pc = .ok (.lstore_n k, 1)) (lv' : List (Nat × Value)) (hi : (k : Nat) = i) (hn : i + 1 < nL) (hv : (i, Value.long x) :: lv.filter (fun q => !(q.1 == i) && (!(q.1 == i + 1) && !(q.1 + 1 == i && q.2.category == 2))) = lv') (kk : ct_J p l e R s mth args below meth c nL D cy o N kc ks QQ m (pc + 1) lv' st) : ct_J p l e R s mth args below meth c nL D cy o N kc ks QQ m pc lv (.long x :: st) := fun H locs ls hP hS hl => lv_lstore_n C.1 C.2.1 d hi hl hn hv (fun ls' hl' => kk H locs ls' hP hS hl')
theorem ct_lstore (C : ct_Cx p s mth c cc nL args own D cy) {i : Nat} {x : Int64} (d : decode cc pc = .ok (.lstore i, 2)) (lv' : List (Nat × Value)) (hn : i + 1 < nL) (hv : (i, Value.long x) :: lv.filter (fun q => !(q.1 == i) && (!(q.1 == i + 1) && !(q.1 + 1 == i && q.2.category == 2))) = lv') (kk : ct_J p l e R s mth args below meth c nL D cy o N kc ks QQ m (pc + 2) lv' st) : ct_J p l e R s mth args below meth c nL D cy o N kc ks QQ m pc lv (.long x :: st) := fun H locs ls hP hS hl => lv_lstore C.1 C.2.1 d hl hn hv (fun ls' hl' => kk H locs ls' hP hS hl')
theorem ct_aload_n (C : ct_Cx p s mth c cc nL args own D cy) {k : Fin 4} {i : Nat} {x : Nat} (d : decode cc pc = .ok (.aload_n k, 1)) (n : Nat) (hi : (k : Nat) = i) (hk : lv[n]? = some (i, .ref x)) (kk : ct_J p l e R s mth args below meth c nL D cy o N kc ks QQ m (pc + 1) lv (.ref x :: st)) : ct_J p l e R s mth args below meth c nL D cy o N kc ks QQ m pc lv st := fun H locs ls hP hS hl => lv_aload_n C.1 C.2.1 d hi (lv_at hl n hk) (kk H locs ls hP hS hl)
theorem ct_aload (C : ct_Cx p s mth c cc nL args own D cy) {i : Nat} {x : Nat} (d : decode cc pc = .ok (.aload i, 2)) (n : Nat) (hk : lv[n]? = some (i, .ref x)) (kk : ct_J p l e R s mth args below meth c nL D cy o N kc ks QQ m (pc + 2) lv (.ref x :: st)) : ct_J p l e R s mth args below meth c nL D cy o N kc ks QQ m pc lv st := fun H locs ls hP hS hl => lv_aload C.1 C.2.1 d (lv_at hl n hk) (kk H locs ls hP hS hl)
theorem ct_astore_n (C : ct_Cx p s mth c cc nL args own D cy) {k : Fin 4} {i : Nat} {x : Nat} (d : decode cc pc = .ok (.astore_n k, 1)) (lv' : List (Nat × Value)) (hi : (k : Nat) = i) (hn : i < nL) (hv : (i, Value.ref x) :: lv.filter (fun q => !(q.1 == i) && !(q.1 + 1 == i && q.2.category == 2)) = lv') (kk : ct_J p l e R s mth args below meth c nL D cy o N kc ks QQ m (pc + 1) lv' st) : ct_J p l e R s mth args below meth c nL D cy o N kc ks QQ m pc lv (.ref x :: st) := fun H locs ls hP hS hl => lv_astore_n C.1 C.2.1 d hi hl hn hv (fun ls' hl' => kk H locs ls' hP hS hl')
theorem ct_astore (C : ct_Cx p s mth c cc nL args own D cy) {i : Nat} {x : Nat} (d : decode cc pc = .ok (.astore i, 2)) (lv' : List (Nat × Value)) (hn : i < nL) (hv : (i, Value.ref x) :: lv.filter (fun q => !(q.1 == i) && !(q.1 + 1 == i && q.2.category == 2)) = lv') (kk : ct_J p l e R s mth args below meth c nL D cy o N kc ks QQ m (pc + 2) lv' st) : ct_J p l e R s mth args below meth c nL D cy o N kc ks QQ m pc lv (.ref x :: st) := fun H locs ls hP hS hl => lv_astore C.1 C.2.1 d hl hn hv (fun ls' hl' => kk H locs ls' hP hS hl')
theorem ct_iinc (C : ct_Cx p s mth c cc nL args own D cy) {i k : Nat} {n : Int} {x v : Int32} (d : decode cc pc = .ok (.iinc i n, 3)) (lv' : List (Nat × Value)) (hk : lv[k]? = some (i, .int x)) (hx : x + Int32.ofInt n = v) (hn : i < nL) (hv : (i, Value.int v) :: lv.filter (fun q => !(q.1 == i) && !(q.1 + 1 == i && q.2.category == 2)) = lv') (kk : ct_J p l e R s mth args below meth c nL D cy o N kc ks QQ m (pc + 3) lv' st) : ct_J p l e R s mth args below meth c nL D cy o N kc ks QQ m pc lv st := fun H locs ls hP hS hl => lv_iinc C.1 C.2.1 d hl hk hx hn hv (fun ls' hl' => kk H locs ls' hP hS hl')
theorem ct_dup (C : ct_Cx p s mth c cc nL args own D cy) {v : Value} (d : decode cc pc = .ok (.dup, 1)) (hv : v.category = 1) (kk : ct_J p l e R s mth args below meth c nL D cy o N kc ks QQ m (pc + 1) lv (v :: v :: st)) : ct_J p l e R s mth args below meth c nL D cy o N kc ks QQ m pc lv (v :: st) := fun H locs ls hP hS hl => lv_dup C.1 C.2.1 d hv (kk H locs ls hP hS hl)
theorem ct_dup_x1 (C : ct_Cx p s mth c cc nL args own D cy) {v u : Value} (d : decode cc pc = .ok (.dup_x1, 1)) (hv : v.category = 1) (hu : u.category = 1) (kk : ct_J p l e R s mth args below meth c nL D cy o N kc ks QQ m (pc + 1) lv (v :: u :: v :: st)) : ct_J p l e R s mth args below meth c nL D cy o N kc ks QQ m pc lv (v :: u :: st) := fun H locs ls hP hS hl => lv_dup_x1 C.1 C.2.1 d hv hu (kk H locs ls hP hS hl)
theorem ct_dup2 (C : ct_Cx p s mth c cc nL args own D cy) {v u : Value} (d : decode cc pc = .ok (.dup2, 1)) (hv : v.category = 1) (hu : u.category = 1) (kk : ct_J p l e R s mth args below meth c nL D cy o N kc ks QQ m (pc + 1) lv (v :: u :: v :: u :: st)) : ct_J p l e R s mth args below meth c nL D cy o N kc ks QQ m pc lv (v :: u :: st) := fun H locs ls hP hS hl => lv_dup2_11 C.1 C.2.1 d hv hu (kk H locs ls hP hS hl)
theorem ct_pop (C : ct_Cx p s mth c cc nL args own D cy) {v : Value} (d : decode cc pc = .ok (.pop, 1)) (hv : v.category = 1) (kk : ct_J p l e R s mth args below meth c nL D cy o N kc ks QQ m (pc + 1) lv st) : ct_J p l e R s mth args below meth c nL D cy o N kc ks QQ m pc lv (v :: st) := fun H locs ls hP hS hl => lv_pop C.1 C.2.1 d hv (kk H locs ls hP hS hl)
theorem ct_if_eq (C : ct_Cx p s mth c cc nL args own D cy) {x : Int32} {off : Int} (d : decode cc pc = .ok (.ifCond .eq off, 3)) (tgt : Nat) (ht : (pc : Int) + off = (tgt : Int)) (kt : x = 0 → ct_J p l e R s mth args below meth c nL D cy o N kc ks QQ m tgt lv st) (kf : ¬ x = 0 → ct_J p l e R s mth args below meth c nL D cy o N kc ks QQ m (pc + 3) lv st) : ct_J p l e R s mth args below meth c nL D cy o N kc ks QQ m pc lv (.int x :: st) := fun H locs ls hP hS hl => lv_if_eq C.1 C.2.1 d ht (fun h => kt h H locs ls hP hS hl) (fun h => kf h H locs ls hP hS hl)
theorem ct_icmp_eq (C : ct_Cx p s mth c cc nL args own D cy) {x y : Int32} {off : Int} (d : decode cc pc = .ok (.if_icmp .eq off, 3)) (tgt : Nat) (ht : (pc : Int) + off = (tgt : Int)) (kt : x = y → ct_J p l e R s mth args below meth c nL D cy o N kc ks QQ m tgt lv st) (kf : ¬ x = y → ct_J p l e R s mth args below meth c nL D cy o N kc ks QQ m (pc + 3) lv st) : ct_J p l e R s mth args below meth c nL D cy o N kc ks QQ m pc lv (.int y :: .int x :: st) := fun H locs ls hP hS hl => lv_icmp_eq C.1 C.2.1 d ht (fun h => kt h H locs ls hP hS hl) (fun h => kf h H locs ls hP hS hl)
theorem ct_if_ne (C : ct_Cx p s mth c cc nL args own D cy) {x : Int32} {off : Int} (d : decode cc pc = .ok (.ifCond .ne off, 3)) (tgt : Nat) (ht : (pc : Int) + off = (tgt : Int)) (kt : ¬ x = 0 → ct_J p l e R s mth args below meth c nL D cy o N kc ks QQ m tgt lv st) (kf : x = 0 → ct_J p l e R s mth args below meth c nL D cy o N kc ks QQ m (pc + 3) lv st) : ct_J p l e R s mth args below meth c nL D cy o N kc ks QQ m pc lv (.int x :: st) := fun H locs ls hP hS hl => lv_if_ne C.1 C.2.1 d ht (fun h => kt h H locs ls hP hS hl) (fun h => kf h H locs ls hP hS hl)
theorem ct_icmp_ne (C : ct_Cx p s mth c cc nL args own D cy) {x y : Int32} {off : Int} (d : decode cc pc = .ok (.if_icmp .ne off, 3)) (tgt : Nat) (ht : (pc : Int) + off = (tgt : Int)) (kt : ¬ x = y → ct_J p l e R s mth args below meth c nL D cy o N kc ks QQ m tgt lv st) (kf : x = y → ct_J p l e R s mth args below meth c nL D cy o N kc ks QQ m (pc + 3) lv st) : ct_J p l e R s mth args below meth c nL D cy o N kc ks QQ m pc lv (.int y :: .int x :: st) := fun H locs ls hP hS hl => lv_icmp_ne C.1 C.2.1 d ht (fun h => kt h H locs ls hP hS hl) (fun h => kf h H locs ls hP hS hl)
theorem ct_if_lt (C : ct_Cx p s mth c cc nL args own D cy) {x : Int32} {off : Int} (d : decode cc pc = .ok (.ifCond .lt off, 3)) (tgt : Nat) (ht : (pc : Int) + off = (tgt : Int)) (kt : x < 0 → ct_J p l e R s mth args below meth c nL D cy o N kc ks QQ m tgt lv st) (kf : ¬ x < 0 → ct_J p l e R s mth args below meth c nL D cy o N kc ks QQ m (pc + 3) lv st) : ct_J p l e R s mth args below meth c nL D cy o N kc ks QQ m pc lv (.int x :: st) := fun H locs ls hP hS hl => lv_if_lt C.1 C.2.1 d ht (fun h => kt h H locs ls hP hS hl) (fun h => kf h H locs ls hP hS hl)
theorem ct_icmp_lt (C : ct_Cx p s mth c cc nL args own D cy) {x y : Int32} {off : Int} (d : decode cc pc = .ok (.if_icmp .lt off, 3)) (tgt : Nat) (ht : (pc : Int) + off = (tgt : Int)) (kt : x < y → ct_J p l e R s mth args below meth c nL D cy o N kc ks QQ m tgt lv st) (kf : ¬ x < y → ct_J p l e R s mth args below meth c nL D cy o N kc ks QQ m (pc + 3) lv st) : ct_J p l e R s mth args below meth c nL D cy o N kc ks QQ m pc lv (.int y :: .int x :: st) := fun H locs ls hP hS hl => lv_icmp_lt C.1 C.2.1 d ht (fun h => kt h H locs ls hP hS hl) (fun h => kf h H locs ls hP hS hl)
theorem ct_if_ge (C : ct_Cx p s mth c cc nL args own D cy) {x : Int32} {off : Int} (d : decode cc pc = .ok (.ifCond .ge off, 3)) (tgt : Nat) (ht : (pc : Int) + off = (tgt : Int)) (kt : 0 ≤ x → ct_J p l e R s mth args below meth c nL D cy o N kc ks QQ m tgt lv st) (kf : ¬ 0 ≤ x → ct_J p l e R s mth args below meth c nL D cy o N kc ks QQ m (pc + 3) lv st) : ct_J p l e R s mth args below meth c nL D cy o N kc ks QQ m pc lv (.int x :: st) := fun H locs ls hP hS hl => lv_if_ge C.1 C.2.1 d ht (fun h => kt h H locs ls hP hS hl) (fun h => kf h H locs ls hP hS hl)
theorem ct_icmp_ge (C : ct_Cx p s mth c cc nL args own D cy) {x y : Int32} {off : Int} (d : decode cc pc = .ok (.if_icmp .ge off, 3)) (tgt : Nat) (ht : (pc : Int) + off = (tgt : Int)) (kt : y ≤ x → ct_J p l e R s mth args below meth c nL D cy o N kc ks QQ m tgt lv st) (kf : ¬ y ≤ x → ct_J p l e R s mth args below meth c nL D cy o N kc ks QQ m (pc + 3) lv st) : ct_J p l e R s mth args below meth c nL D cy o N kc ks QQ m pc lv (.int y :: .int x :: st) := fun H locs ls hP hS hl => lv_icmp_ge C.1 C.2.1 d ht (fun h => kt h H locs ls hP hS hl) (fun h => kf h H locs ls hP hS hl)
theorem ct_if_gt (C : ct_Cx p s mth c cc nL args own D cy) {x : Int32} {off : Int} (d : decode cc pc = .ok (.ifCond .gt off, 3)) (tgt : Nat) (ht : (pc : Int) + off = (tgt : Int)) (kt : 0 < x → ct_J p l e R s mth args below meth c nL D cy o N kc ks QQ m tgt lv st) (kf : ¬ 0 < x → ct_J p l e R s mth args below meth c nL D cy o N kc ks QQ m (pc + 3) lv st) : ct_J p l e R s mth args below meth c nL D cy o N kc ks QQ m pc lv (.int x :: st) := fun H locs ls hP hS hl => lv_if_gt C.1 C.2.1 d ht (fun h => kt h H locs ls hP hS hl) (fun h => kf h H locs ls hP hS hl)
theorem ct_icmp_gt (C : ct_Cx p s mth c cc nL args own D cy) {x y : Int32} {off : Int} (d : decode cc pc = .ok (.if_icmp .gt off, 3)) (tgt : Nat) (ht : (pc : Int) + off = (tgt : Int)) (kt : y < x → ct_J p l e R s mth args below meth c nL D cy o N kc ks QQ m tgt lv st) (kf : ¬ y < x → ct_J p l e R s mth args below meth c nL D cy o N kc ks QQ m (pc + 3) lv st) : ct_J p l e R s mth args below meth c nL D cy o N kc ks QQ m pc lv (.int y :: .int x :: st) := fun H locs ls hP hS hl => lv_icmp_gt C.1 C.2.1 d ht (fun h => kt h H locs ls hP hS hl) (fun h => kf h H locs ls hP hS hl)
theorem ct_if_le (C : ct_Cx p s mth c cc nL args own D cy) {x : Int32} {off : Int} (d : decode cc pc = .ok (.ifCond .le off, 3)) (tgt : Nat) (ht : (pc : Int) + off = (tgt : Int)) (kt : x ≤ 0 → ct_J p l e R s mth args below meth c nL D cy o N kc ks QQ m tgt lv st) (kf : ¬ x ≤ 0 → ct_J p l e R s mth args below meth c nL D cy o N kc ks QQ m (pc + 3) lv st) : ct_J p l e R s mth args below meth c nL D cy o N kc ks QQ m pc lv (.int x :: st) := fun H locs ls hP hS hl => lv_if_le C.1 C.2.1 d ht (fun h => kt h H locs ls hP hS hl) (fun h => kf h H locs ls hP hS hl)
theorem ct_icmp_le (C : ct_Cx p s mth c cc nL args own D cy) {x y : Int32} {off : Int} (d : decode cc pc = .ok (.if_icmp .le off, 3)) (tgt : Nat) (ht : (pc : Int) + off = (tgt : Int)) (kt : x ≤ y → ct_J p l e R s mth args below meth c nL D cy o N kc ks QQ m tgt lv st) (kf : ¬ x ≤ y → ct_J p l e R s mth args below meth c nL D cy o N kc ks QQ m (pc + 3) lv st) : ct_J p l e R s mth args below meth c nL D cy o N kc ks QQ m pc lv (.int y :: .int x :: st) := fun H locs ls hP hS hl => lv_icmp_le C.1 C.2.1 d ht (fun h => kt h H locs ls hP hS hl) (fun h => kf h H locs ls hP hS hl)
theorem ct_goto (C : ct_Cx p s mth c cc nL args own D cy) {off : Int} (d : decode cc pc = .ok (.goto off, 3)) (tgt : Nat) (ht : (pc : Int) + off = (tgt : Int)) (kk : ct_J p l e R s mth args below meth c nL D cy o N kc ks QQ m tgt lv st) : ct_J p l e R s mth args below meth c nL D cy o N kc ks QQ m pc lv st := fun H locs ls hP hS hl => lv_goto C.1 C.2.1 d ht (kk H locs ls hP hS hl)
theorem ct_lookup (C : ct_Cx p s mth c cc nL args own D cy) {dflt : Int} {ps : Array (Int × Int)} {len : Nat} {x : Int32} {off : Int} (d : decode cc pc = .ok (.lookupswitch dflt ps, len)) (tgt : Nat) (hp : (ps.toList.zip (ps.toList.drop 1)).all (fun (a, next) => a.1 < next.1) = true) (ho : Op.lookupswitch.offset ps.toList dflt x.toInt = off) (ht : (pc : Int) + off = (tgt : Int)) (kk : ct_J p l e R s mth args below meth c nL D cy o N kc ks QQ m tgt lv st) : ct_J p l e R s mth args below meth c nL D cy o N kc ks QQ m pc lv (.int x :: st) := fun H locs ls hP hS hl => lv_lookup C.1 C.2.1 d hp ho ht (kk H locs ls hP hS hl)
theorem ct_tableOut (C : ct_Cx p s mth c cc nL args own D cy) {dflt lo hi : Int} {offs : Array Int} {len : Nat} {x : Int32} (d : decode cc pc = .ok (.tableswitch dflt lo hi offs, len)) (tgt : Nat) (h : x.toInt < lo ∨ hi < x.toInt) (ht : (pc : Int) + dflt = (tgt : Int)) (kk : ct_J p l e R s mth args below meth c nL D cy o N kc ks QQ m tgt lv st) : ct_J p l e R s mth args below meth c nL D cy o N kc ks QQ m pc lv (.int x :: st) := fun H locs ls hP hS hl => lv_tableOut C.1 C.2.1 d h ht (kk H locs ls hP hS hl)
theorem ct_tableIn (C : ct_Cx p s mth c cc nL args own D cy) {dflt lo hi : Int} {offs : Array Int} {len : Nat} {x : Int32} {off : Int} (d : decode cc pc = .ok (.tableswitch dflt lo hi offs, len)) (tgt : Nat) (h1 : ¬ x.toInt < lo) (h2 : ¬ hi < x.toInt) (ho : offs[(x.toInt - lo).toNat]? = some off) (ht : (pc : Int) + off = (tgt : Int)) (kk : ct_J p l e R s mth args below meth c nL D cy o N kc ks QQ m tgt lv st) : ct_J p l e R s mth args below meth c nL D cy o N kc ks QQ m pc lv (.int x :: st) := fun H locs ls hP hS hl => lv_tableIn C.1 C.2.1 d h1 h2 ho ht (kk H locs ls hP hS hl)
theorem ct_sub (ks' : List Nat) (lv' : List (Nat × Value)) (hv : lv_pick lv ks' = lv') (kk : ct_J p l e R s mth args below meth c nL D cy o N kc ks QQ m pc lv' st) : ct_J p l e R s mth args below meth c nL D cy o N kc ks QQ m pc lv st := fun H locs ls hP hS hl => kk H locs ls hP hS (lv_sub hl ks' hv)
theorem ct_get (C : ct_Cx p s mth c cc nL args own D cy) {ci n index k a : Nat} {C1 : String} {T : u_T} {fs : List Value} {v : Value} (d : decode cc pc = .ok (.getfield index, 3)) (ha : a < N) (hE : ct_E cy o m a = .inr (ci, fs)) (hc : vwCl[ci]? = some (C1, T, n)) (hin : ∀ w ∈ u_ws C1 T n, w ∈ ct_UW) (hk : k < n) (hT : (T k).1 = C1) (hw : Cond.fieldLink own index C1 (T k).2.1 (T k).2.2.1 ∈ ct_UW) (hv : fs[k]? = some v) (kk : ct_J p l e R s mth args below meth c nL D cy o N kc ks QQ m (pc + 3) lv (v :: st)) : ct_J p l e R s mth args below meth c nL D cy o N kc ks QQ m pc lv (.ref (o + a) :: st) := fun H locs ls hP hS hl => va_get (D := D) (ci := ci) C.1 C.2.1 C.2.2.2.2.1 hin C.2.2.2.1 C.2.2.2.2.2.1 hP a (by rw [ct_pw_get ha, hE]) hc k hk (C.2.2.2.2.1 _ hw) (fun _ h => by rw [← hT]; exact h) hv d (kk H locs ls hP hS hl)
theorem ct_put (C : ct_Cx p s mth c cc nL args own D cy) {ci n index k a : Nat} {C1 : String} {T : u_T} {fs : List Value} {ty : FieldType} {x : Int32} (d : decode cc pc = .ok (.putfield index, 3)) (ty0 : Nat → FieldType) (hty : ∀ k, k < n → parseFieldDescriptor (T k).2.2.1 = some (ty0 k)) (hnm : ∀ a, a < n → ∀ b, b < n → a ≠ b → (T a).2.1 ≠ (T b).2.1) (ha : a < N) (hE : ct_E cy o m a = .inr (ci, fs)) (hE2 : ct_E cy o (ct_st m a k x) a = .inr (ci, fs.set k (.int x))) (hc : vwCl[ci]? = some (C1, T, n)) (hin : ∀ w ∈ u_ws C1 T n, w ∈ ct_UW) (hk : k < n) (hT : (T k).1 = C1) (hf : (T k).2.2.2 = false) (hl0 : k < fs.length) (hd : ty0 k = ty) (hw : Cond.fieldLink own index C1 (T k).2.1 (T k).2.2.1 ∈ ct_UW) (hn : narrow ty (.int x) = .int x) (hfit : fits ty (.int x) = true) (kk : ct_J p l e R s mth args below meth c nL D cy o N kc ks QQ (ct_st m a k x) (pc + 3) lv st) : ct_J p l e R s mth args below meth c nL D cy o N kc ks QQ m pc lv (.int x :: .ref (o + a) :: st) := fun H locs ls hP hS hl => va_put (D := D) (ci := ci) (v := .int x) (ty := ty) C.1 C.2.1 C.2.2.2.2.1 hin ty0 hty hnm C.2.2.2.1 C.2.2.2.2.2.1 hP ct_pw_D hS a (by rw [ct_pw_get ha, hE]) hc k hk (C.2.2.2.2.1 _ hw) (fun _ h => by rw [← hT]; exact h) hf (by rw [hty k hk, hd]) hn hfit hl0 d (fun H1 locs1 hP1 hD1 hS1 => kk H1 locs1 ls (by rw [ct_pw_set (m := m) (m' := ct_st m a k x) hE2 (fun q hq => ct_E_congr (ct_st_ne hq) rfl)] at hP1; exact hP1) hS1 hl)
theorem ct_iald (C : ct_Cx p s mth c cc nL args own D cy) {a : Nat} {i : Int32} (d : decode cc pc = .ok (.iaload, 1)) (ha : ct_KN N 14 a) (hi : vp_in i (ct_ln a)) (kk : ct_J p l e R s mth args below meth c nL D cy o N kc ks QQ m (pc + 1) lv (.int (m.1 a i.toNatClampNeg) :: st)) : ct_J p l e R s mth args below meth c nL D cy o N kc ks QQ m pc lv (.int i :: .ref (o + a) :: st) := fun H locs ls hP hS hl => va_iald (D := D) C.1 C.2.1 C.2.2.2.2.2.1 hP a 1 (by rw [ct_pw_get ha.1, ct_E14 ha]) rfl hi d (kk H locs ls hP hS hl)
theorem ct_cald (C : ct_Cx p s mth c cc nL args own D cy) {a : Nat} {i : Int32} (d : decode cc pc = .ok (.caload, 1)) (ha : ct_KN N 13 a) (hi : vp_in i (ct_ln a)) (kk : ct_J p l e R s mth args below meth c nL D cy o N kc ks QQ m (pc + 1) lv (.int (m.1 a i.toNatClampNeg) :: st)) : ct_J p l e R s mth args below meth c nL D cy o N kc ks QQ m pc lv (.int i :: .ref (o + a) :: st) := fun H locs ls hP hS hl => va_cald (D := D) C.1 C.2.1 C.2.2.2.2.2.1 hP a 0 (by rw [ct_pw_get ha.1, ct_E13 ha]) rfl hi d (kk H locs ls hP hS hl)
theorem ct_zald (C : ct_Cx p s mth c cc nL args own D cy) {a : Nat} {i : Int32} (d : decode cc pc = .ok (.baload, 1)) (ha : ct_KN N 16 a) (hi : vp_in i (ct_ln a)) (kk : ct_J p l e R s mth args below meth c nL D cy o N kc ks QQ m (pc + 1) lv (.int (m.1 a i.toNatClampNeg) :: st)) : ct_J p l e R s mth args below meth c nL D cy o N kc ks QQ m pc lv (.int i :: .ref (o + a) :: st) := fun H locs ls hP hS hl => va_zald (D := D) C.1 C.2.1 C.2.2.2.2.2.1 hP a 3 (by rw [ct_pw_get ha.1, ct_E16 ha]) rfl hi d (kk H locs ls hP hS hl)
theorem ct_lald (C : ct_Cx p s mth c cc nL args own D cy) {a : Nat} {i : Int32} (d : decode cc pc = .ok (.laload, 1)) (ha : ct_KN N 15 a) (hi : vp_in i (ct_ln a)) (kk : ct_J p l e R s mth args below meth c nL D cy o N kc ks QQ m (pc + 1) lv (.long (m.2 a i.toNatClampNeg) :: st)) : ct_J p l e R s mth args below meth c nL D cy o N kc ks QQ m pc lv (.int i :: .ref (o + a) :: st) := fun H locs ls hP hS hl => va_lald (D := D) C.1 C.2.1 C.2.2.2.2.2.1 hP a 2 (by rw [ct_pw_get ha.1, ct_E15 ha]) rfl hi d (kk H locs ls hP hS hl)
theorem ct_iast (C : ct_Cx p s mth c cc nL args own D cy) {a : Nat} {i : Int32} {x : Int32} (d : decode cc pc = .ok (.iastore, 1)) (ha : ct_KN N 14 a) (hi : vp_in i (ct_ln a)) (kk : ct_J p l e R s mth args below meth c nL D cy o N kc ks QQ (ct_st m a i.toNatClampNeg (x)) (pc + 1) lv st) : ct_J p l e R s mth args below meth c nL D cy o N kc ks QQ m pc lv (.int x :: .int i :: .ref (o + a) :: st) := fun H locs ls hP hS hl => va_iast (D := D) C.1 C.2.1 C.2.2.2.2.2.1 hP ct_pw_D hS a 1 (by rw [ct_pw_get ha.1, ct_E14 ha]) rfl hi d (fun H1 locs1 hP1 hD1 hS1 => kk H1 locs1 ls (by rw [ct_pw_set (m := m) (m' := ct_st m a i.toNatClampNeg (x)) (by rw [ct_E14 ha, ct_st_eq]) (fun q hq => ct_E_congr (ct_st_ne hq) rfl)] at hP1; exact hP1) hS1 hl)
theorem ct_cast (C : ct_Cx p s mth c cc nL args own D cy) {a : Nat} {i : Int32} {x : Int32} (d : decode cc pc = .ok (.castore, 1)) (ha : ct_KN N 13 a) (hi : vp_in i (ct_ln a)) (kk : ct_J p l e R s mth args below meth c nL D cy o N kc ks QQ (ct_st m a i.toNatClampNeg (vp_nar .char x)) (pc + 1) lv st) : ct_J p l e R s mth args below meth c nL D cy o N kc ks QQ m pc lv (.int x :: .int i :: .ref (o + a) :: st) := fun H locs ls hP hS hl => va_cast (D := D) C.1 C.2.1 C.2.2.2.2.2.1 hP ct_pw_D hS a 0 (by rw [ct_pw_get ha.1, ct_E13 ha]) rfl hi d (fun H1 locs1 hP1 hD1 hS1 => kk H1 locs1 ls (by rw [ct_pw_set (m := m) (m' := ct_st m a i.toNatClampNeg (vp_nar .char x)) (by rw [ct_E13 ha, ct_st_eq]) (fun q hq => ct_E_congr (ct_st_ne hq) rfl)] at hP1; exact hP1) hS1 hl)
theorem ct_zast (C : ct_Cx p s mth c cc nL args own D cy) {a : Nat} {i : Int32} {x : Int32} (d : decode cc pc = .ok (.bastore, 1)) (ha : ct_KN N 16 a) (hi : vp_in i (ct_ln a)) (kk : ct_J p l e R s mth args below meth c nL D cy o N kc ks QQ (ct_st m a i.toNatClampNeg (vp_nar .boolean x)) (pc + 1) lv st) : ct_J p l e R s mth args below meth c nL D cy o N kc ks QQ m pc lv (.int x :: .int i :: .ref (o + a) :: st) := fun H locs ls hP hS hl => va_zast (D := D) C.1 C.2.1 C.2.2.2.2.2.1 hP ct_pw_D hS a 3 (by rw [ct_pw_get ha.1, ct_E16 ha]) rfl hi d (fun H1 locs1 hP1 hD1 hS1 => kk H1 locs1 ls (by rw [ct_pw_set (m := m) (m' := ct_st m a i.toNatClampNeg (vp_nar .boolean x)) (by rw [ct_E16 ha, ct_st_eq]) (fun q hq => ct_E_congr (ct_st_ne hq) rfl)] at hP1; exact hP1) hS1 hl)
theorem ct_last (C : ct_Cx p s mth c cc nL args own D cy) {a : Nat} {i : Int32} {x : Int64} (d : decode cc pc = .ok (.lastore, 1)) (ha : ct_KN N 15 a) (hi : vp_in i (ct_ln a)) (kk : ct_J p l e R s mth args below meth c nL D cy o N kc ks QQ (ct_sL m a i.toNatClampNeg (x)) (pc + 1) lv st) : ct_J p l e R s mth args below meth c nL D cy o N kc ks QQ m pc lv (.long x :: .int i :: .ref (o + a) :: st) := fun H locs ls hP hS hl => va_last (D := D) C.1 C.2.1 C.2.2.2.2.2.1 hP ct_pw_D hS a 2 (by rw [ct_pw_get ha.1, ct_E15 ha]) rfl hi d (fun H1 locs1 hP1 hD1 hS1 => kk H1 locs1 ls (by rw [ct_pw_set (m := m) (m' := ct_sL m a i.toNatClampNeg (x)) (by rw [ct_E15 ha, ct_sL_eq]) (fun q hq => ct_E_congr rfl (ct_sL_ne hq))] at hP1; exact hP1) hS1 hl)
theorem ct_aald17 (C : ct_Cx p s mth c cc nL args own D cy) {a : Nat} {i : Int32} (d : decode cc pc = .ok (.aaload, 1)) (ha : ct_KN N 17 a) (hi : vp_in i (ct_ln a)) (kk : ct_J p l e R s mth args below meth c nL D cy o N kc ks QQ m (pc + 1) lv (.ref (o + (a + 1 + 3 * i.toNatClampNeg)) :: st)) : ct_J p l e R s mth args below meth c nL D cy o N kc ks QQ m pc lv (.int i :: .ref (o + a) :: st) := fun H locs ls hP hS hl => va_aldq (D := D) (f := fun i => some (o + (a + 1 + 3 * i))) C.1 C.2.1 C.2.2.2.2.2.1 hP a 4 (by rw [ct_pw_get ha.1, ct_E17 ha]) rfl hi d (kk H locs ls hP hS hl)
theorem ct_alen17 (C : ct_Cx p s mth c cc nL args own D cy) {a : Nat} (d : decode cc pc = .ok (.arraylength, 1)) (ha : ct_KN N 17 a) (kk : ct_J p l e R s mth args below meth c nL D cy o N kc ks QQ m (pc + 1) lv (.int (Int32.ofNat (ct_ln a)) :: st)) : ct_J p l e R s mth args below meth c nL D cy o N kc ks QQ m pc lv (.ref (o + a) :: st) := fun H locs ls hP hS hl => va_alen (D := D) C.1 C.2.1 C.2.2.2.2.2.1 hP a 4 (by rw [ct_pw_get ha.1, ct_E17 ha]) rfl rfl d (kk H locs ls hP hS hl)
theorem ct_aald18 (C : ct_Cx p s mth c cc nL args own D cy) {a : Nat} {i : Int32} (d : decode cc pc = .ok (.aaload, 1)) (ha : ct_KN N 18 a) (hi : vp_in i (ct_ln a)) (kk : ct_J p l e R s mth args below meth c nL D cy o N kc ks QQ m (pc + 1) lv (.ref (o + (a + 6 + 5 * i.toNatClampNeg)) :: st)) : ct_J p l e R s mth args below meth c nL D cy o N kc ks QQ m pc lv (.int i :: .ref (o + a) :: st) := fun H locs ls hP hS hl => va_aldq (D := D) (f := fun i => some (o + (a + 6 + 5 * i))) C.1 C.2.1 C.2.2.2.2.2.1 hP a 5 (by rw [ct_pw_get ha.1, ct_E18 ha]) rfl hi d (kk H locs ls hP hS hl)
theorem ct_alen18 (C : ct_Cx p s mth c cc nL args own D cy) {a : Nat} (d : decode cc pc = .ok (.arraylength, 1)) (ha : ct_KN N 18 a) (kk : ct_J p l e R s mth args below meth c nL D cy o N kc ks QQ m (pc + 1) lv (.int (Int32.ofNat (ct_ln a)) :: st)) : ct_J p l e R s mth args below meth c nL D cy o N kc ks QQ m pc lv (.ref (o + a) :: st) := fun H locs ls hP hS hl => va_alen (D := D) C.1 C.2.1 C.2.2.2.2.2.1 hP a 5 (by rw [ct_pw_get ha.1, ct_E18 ha]) rfl rfl d (kk H locs ls hP hS hl)
theorem ct_aald19 (C : ct_Cx p s mth c cc nL args own D cy) {a : Nat} {i : Int32} (d : decode cc pc = .ok (.aaload, 1)) (ha : ct_KN N 19 a) (hi : vp_in i (ct_ln a)) (kk : ct_J p l e R s mth args below meth c nL D cy o N kc ks QQ m (pc + 1) lv (.ref (o + (a + 4 + 15 * i.toNatClampNeg)) :: st)) : ct_J p l e R s mth args below meth c nL D cy o N kc ks QQ m pc lv (.int i :: .ref (o + a) :: st) := fun H locs ls hP hS hl => va_aldq (D := D) (f := fun i => some (o + (a + 4 + 15 * i))) C.1 C.2.1 C.2.2.2.2.2.1 hP a 6 (by rw [ct_pw_get ha.1, ct_E19 ha]) rfl hi d (kk H locs ls hP hS hl)
theorem ct_alen19 (C : ct_Cx p s mth c cc nL args own D cy) {a : Nat} (d : decode cc pc = .ok (.arraylength, 1)) (ha : ct_KN N 19 a) (kk : ct_J p l e R s mth args below meth c nL D cy o N kc ks QQ m (pc + 1) lv (.int (Int32.ofNat (ct_ln a)) :: st)) : ct_J p l e R s mth args below meth c nL D cy o N kc ks QQ m pc lv (.ref (o + a) :: st) := fun H locs ls hP hS hl => va_alen (D := D) C.1 C.2.1 C.2.2.2.2.2.1 hP a 6 (by rw [ct_pw_get ha.1, ct_E19 ha]) rfl rfl d (kk H locs ls hP hS hl)
theorem ct_aald20 (C : ct_Cx p s mth c cc nL args own D cy) {a : Nat} {i : Int32} (d : decode cc pc = .ok (.aaload, 1)) (ha : ct_KN N 20 a) (hi : vp_in i (ct_ln a)) (kk : ct_J p l e R s mth args below meth c nL D cy o N kc ks QQ m (pc + 1) lv (.ref (o + (ct_elW a i.toNatClampNeg)) :: st)) : ct_J p l e R s mth args below meth c nL D cy o N kc ks QQ m pc lv (.int i :: .ref (o + a) :: st) := fun H locs ls hP hS hl => va_aldq (D := D) (f := fun i => some (o + (ct_elW a i))) C.1 C.2.1 C.2.2.2.2.2.1 hP a 7 (by rw [ct_pw_get ha.1, ct_E20 ha]) rfl hi d (kk H locs ls hP hS hl)
theorem ct_alen20 (C : ct_Cx p s mth c cc nL args own D cy) {a : Nat} (d : decode cc pc = .ok (.arraylength, 1)) (ha : ct_KN N 20 a) (kk : ct_J p l e R s mth args below meth c nL D cy o N kc ks QQ m (pc + 1) lv (.int (Int32.ofNat (ct_ln a)) :: st)) : ct_J p l e R s mth args below meth c nL D cy o N kc ks QQ m pc lv (.ref (o + a) :: st) := fun H locs ls hP hS hl => va_alen (D := D) C.1 C.2.1 C.2.2.2.2.2.1 hP a 7 (by rw [ct_pw_get ha.1, ct_E20 ha]) rfl rfl d (kk H locs ls hP hS hl)
theorem ct_alen14 (C : ct_Cx p s mth c cc nL args own D cy) {a : Nat} (d : decode cc pc = .ok (.arraylength, 1)) (ha : ct_KN N 14 a) (kk : ct_J p l e R s mth args below meth c nL D cy o N kc ks QQ m (pc + 1) lv (.int (Int32.ofNat (ct_ln a)) :: st)) : ct_J p l e R s mth args below meth c nL D cy o N kc ks QQ m pc lv (.ref (o + a) :: st) := fun H locs ls hP hS hl => va_alen (D := D) C.1 C.2.1 C.2.2.2.2.2.1 hP a 1 (by rw [ct_pw_get ha.1, ct_E14 ha]) rfl rfl d (kk H locs ls hP hS hl)
theorem ct_topi {x : Int32} (kk : ∀ y : Int32, y = x → ct_J p l e R s mth args below meth c nL D cy o N kc ks QQ m pc lv (.int y :: st)) : ct_J p l e R s mth args below meth c nL D cy o N kc ks QQ m pc lv (.int x :: st) := kk x rfl
theorem ct_topl {x : Int64} (kk : ∀ y : Int64, y = x → ct_J p l e R s mth args below meth c nL D cy o N kc ks QQ m pc lv (.long y :: st)) : ct_J p l e R s mth args below meth c nL D cy o N kc ks QQ m pc lv (.long x :: st) := kk x rfl
theorem ct_mem (kk : ∀ m' : ct_M, m' = m → ct_J p l e R s mth args below meth c nL D cy o N kc ks QQ m' pc lv st) : ct_J p l e R s mth args below meth c nL D cy o N kc ks QQ m pc lv st := kk m rfl
end CTJ
