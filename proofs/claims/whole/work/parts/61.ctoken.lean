/-! the class: one token -/
theorem Rk_read {G : Prg} {m : ct_M} {w t c : Nat} {v : Row} (h : Rk G m w v t) (hk3 : (v (rAt t + 16)).toNatClampNeg ≤ 3) (hc : c < 6) (x : Int32) (hx : ¬ x + 1 = 0) : Rk G (cPut m (w + 1) c x) w (upd v (rAt t + 3 + c) (x + 1)) t := by
  obtain ⟨⟨a1, a2, a3, a4, a5, a6⟩, ⟨⟨n, n1, n2⟩, r2⟩, ⟨w1, w2⟩, b⟩ := h
  have z : ∀ j, j < 3 ∨ 9 ≤ j → upd v (rAt t + 3 + c) (x + 1) (rAt t + j) = v (rAt t + j) := fun j hj => upd_ne _ _ (by omega)
  have e : ∀ q, q ≠ w + 1 → q ≠ w + 2 → (cPut m (w + 1) c x).1 q = m.1 q := fun q h1 h2 => by
    unfold cPut; rw [ct_st_ne h2, ct_st_ne h1]
  obtain ⟨⟨r, hr6, hr⟩, -⟩ := bit_or n c 0 n1 hc (by decide)
  have e1 : (cPut m (w + 1) c x).1 (w + 1) 0 = nI n ||| ((1 : Int32) <<< (nI c &&& 31)) := by
    unfold cPut; rw [ct_st_ne (by omega), ct_st_eq, upd_same, n2]
  have e2 : (cPut m (w + 1) c x).1 (w + 2) = upd (m.1 (w + 2)) c x := by
    unfold cPut; rw [show w + 1 + 1 = w + 2 from rfl, ct_st_eq, ct_st_ne (by omega)]
  refine ⟨⟨?_, ?_, ?_, ?_, ?_, ?_⟩, ⟨⟨r, hr6, e1.trans hr⟩, fun d hd => ?_⟩, ⟨?_, fun d hd hb => ?_⟩, fun k' hk' => ?_⟩
  · rw [e _ (by omega) (by omega), show rAt t = rAt t + 0 from rfl, z 0 (by omega)]; exact a1
  · rw [e _ (by omega) (by omega), z 47 (by omega)]; exact a2
  · rw [e _ (by omega) (by omega), z 48 (by omega)]; exact a3
  · rw [e _ (by omega) (by omega), z 2 (by omega)]; exact a4
  · rw [e _ (by omega) (by omega), z 1 (by omega)]; exact a5
  · rw [e _ (by omega) (by omega), z 16 (by omega)]; exact a6
  · rw [e1, e2, (bit_or n c d n1 hc hd).2]
    by_cases ed : d = c
    · subst ed
      rw [upd_same, upd_same]
      exact ⟨⟨fun _ => hx, fun _ => Or.inl rfl⟩, fun _ => rfl⟩
    · rw [upd_ne _ _ ed, upd_ne _ _ (by omega), ← n2]
      obtain ⟨q1, q2⟩ := r2 d hd
      exact ⟨⟨fun o => q1.mp (o.resolve_left ed), fun o => Or.inr (q1.mpr o)⟩, q2⟩
  · rw [e _ (by omega) (by omega), z 9 (by omega)]; exact w1
  · rw [z 9 (by omega)] at hb
    rw [e _ (by omega) (by omega), show rAt t + 10 + d = rAt t + (10 + d) by omega, z (10 + d) (by omega), show rAt t + (10 + d) = rAt t + 10 + d by omega]; exact w2 d hd hb
  · rw [z 16 (by omega)] at hk'
    have hB' : rB t k' = rAt t + 17 + 10 * k' := rfl
    obtain ⟨c1, c2, c3, c4, c5, c6⟩ := b k' hk'
    have hz : ∀ j, j < 10 → upd v (rAt t + 3 + c) (x + 1) (rB t k' + j) = v (rB t k' + j) := fun j hj => upd_ne _ _ (by omega)
    have et : rTok (upd v (rAt t + 3 + c) (x + 1)) t k' = rTok v t k' := by unfold rTok; rw [show rB t k' = rB t k' + 0 from rfl, hz 0 (by omega)]
    unfold RkB1
    rw [et, e (w + 6 + 3 * k') (by omega) (by omega), e (w + 6 + 3 * k' + 1) (by omega) (by omega), e (w + 6 + 3 * k' + 2) (by omega) (by omega), hz 1 (by omega), hz 2 (by omega), hz 3 (by omega)]
    refine ⟨c1, c2, c3, c4, c5, fun d hd hb => ?_⟩
    rw [show rB t k' + 4 + d = rB t k' + (4 + d) by omega, hz (4 + d) (by omega), show rB t k' + (4 + d) = rB t k' + 4 + d by omega]
    exact c6 d hd hb
theorem Rk_write {G : Prg} {m : ct_M} {w t c : Nat} {v : Row} (h : Rk G m w v t) (hk3 : (v (rAt t + 16)).toNatClampNeg ≤ 3) (hc : c < 6) (hwm : ∃ n : Nat, n < 64 ∧ v (rAt t + 9) = nI n) : Rk G (cPut m (w + 3) c (m.1 w 4)) w (rWr v t c) t := by
  obtain ⟨⟨a1, a2, a3, a4, a5, a6⟩, r, ⟨w1, w2⟩, b⟩ := h
  obtain ⟨n, n1, n2⟩ := hwm
  have z : ∀ j, j < 9 ∨ 16 ≤ j → rWr v t c (rAt t + j) = v (rAt t + j) := fun j hj => by
    unfold rWr; rw [upd_ne _ _ (by omega), upd_ne _ _ (by omega)]
  have e : ∀ q, q ≠ w + 3 → q ≠ w + 4 → (cPut m (w + 3) c (m.1 w 4)).1 q = m.1 q := fun q h1 h2 => by
    unfold cPut; rw [ct_st_ne h2, ct_st_ne h1]
  have e1 : (cPut m (w + 3) c (m.1 w 4)).1 (w + 3) 0 = nI n ||| ((1 : Int32) <<< (nI c &&& 31)) := by
    unfold cPut; rw [ct_st_ne (by omega), ct_st_eq, upd_same, w1, n2]
  have e2 : (cPut m (w + 3) c (m.1 w 4)).1 (w + 4) = upd (m.1 (w + 4)) c (m.1 w 4) := by
    unfold cPut; rw [show w + 3 + 1 = w + 4 from rfl, ct_st_eq, ct_st_ne (by omega)]
  have r9 : rWr v t c (rAt t + 9) = nI n ||| ((1 : Int32) <<< (nI c &&& 31)) := by
    unfold rWr; rw [upd_ne _ _ (by omega), upd_same, n2]
  refine ⟨⟨?_, ?_, ?_, ?_, ?_, ?_⟩, ⟨?_, fun d hd => ?_⟩, ⟨?_, fun d hd hb => ?_⟩, fun k' hk' => ?_⟩
  · rw [e _ (by omega) (by omega), show rAt t = rAt t + 0 from rfl, z 0 (by omega)]; exact a1
  · rw [e _ (by omega) (by omega), z 47 (by omega)]; exact a2
  · rw [e _ (by omega) (by omega), z 48 (by omega)]; exact a3
  · rw [e _ (by omega) (by omega), z 2 (by omega)]; exact a4
  · rw [e _ (by omega) (by omega), z 1 (by omega)]; exact a5
  · rw [e _ (by omega) (by omega), z 16 (by omega)]; exact a6
  · rw [e _ (by omega) (by omega)]; exact r.1
  · rw [e _ (by omega) (by omega), e _ (by omega) (by omega), show rAt t + 3 + d = rAt t + (3 + d) by omega, z (3 + d) (by omega), show rAt t + (3 + d) = rAt t + 3 + d by omega]; exact r.2 d hd
  · rw [e1, r9]
  · rw [r9, (bit_or n c d n1 hc hd).2] at hb
    rw [e2]
    by_cases ed : d = c
    · subst ed
      rw [upd_same]; unfold rWr; rw [upd_same]; exact a4
    · rw [upd_ne _ _ ed]; unfold rWr; rw [upd_ne _ _ (by omega), upd_ne _ _ (by omega)]
      exact w2 d hd (by rw [n2]; exact hb.resolve_left ed)
  · rw [z 16 (by omega)] at hk'
    have hB' : rB t k' = rAt t + 17 + 10 * k' := rfl
    obtain ⟨c1, c2, c3, c4, c5, c6⟩ := b k' hk'
    have hz : ∀ j, j < 10 → rWr v t c (rB t k' + j) = v (rB t k' + j) := fun j hj => by
      unfold rWr; rw [upd_ne _ _ (by omega), upd_ne _ _ (by omega)]
    have et : rTok (rWr v t c) t k' = rTok v t k' := by unfold rTok; rw [show rB t k' = rB t k' + 0 from rfl, hz 0 (by omega)]
    unfold RkB1
    rw [et, e (w + 6 + 3 * k') (by omega) (by omega), e (w + 6 + 3 * k' + 1) (by omega) (by omega), e (w + 6 + 3 * k' + 2) (by omega) (by omega), hz 1 (by omega), hz 2 (by omega), hz 3 (by omega)]
    refine ⟨c1, c2, c3, c4, c5, fun d hd hb => ?_⟩
    rw [show rB t k' + 4 + d = rB t k' + (4 + d) by omega, hz (4 + d) (by omega), show rB t k' + (4 + d) = rB t k' + 4 + d by omega]
    exact c6 d hd hb
theorem Fr.put {m : ct_M} {a c lo hi : Nat} {x : Int32} (h1 : lo ≤ a) (h2 : a + 1 < hi) (h3 : ¬ Bk lo hi a := by unfold Bk; omega) (h4 : ¬ Bk lo hi (a + 1) := by unfold Bk; omega) : Fr m (cPut m a c x) lo hi :=
  (Fr.st (by omega) (by omega) h3).tr (Fr.st (by omega) (by omega) h4)
theorem c_clamp {x : Int32} {Q : Int32 → ct_M → Prop} {m : ct_M} (h : Q (rClamp x) m) : wp_X11_clamp x Q m := by
  have e : (if (-99 : Int32) < (if x < (99 : Int32) then x else (99 : Int32)) then (if x < (99 : Int32) then x else (99 : Int32)) else (-99 : Int32)) = rClamp x := by
    unfold rClamp
    have h1 : ∀ a b : Int32, a < b ↔ a.toInt < b.toInt := fun a b => Int32.lt_iff_toInt_lt
    have h2 : ∀ a b : Int32, a ≤ b ↔ a.toInt ≤ b.toInt := fun a b => Int32.le_iff_toInt_le
    have c1 : (99 : Int32).toInt = 99 := rfl
    have c2 : (-99 : Int32).toInt = -99 := rfl
    apply Int32.toInt_inj.mp
    (repeat' split) <;> simp only [h1, h2, c1, c2] at * <;> omega
  unfold wp_X11_clamp
  rw [e]
  exact h
