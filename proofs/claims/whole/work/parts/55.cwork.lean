/-! the class: its worker against a thread of the row -/
/-- a block's sign and flag fit their fields -/
def OkB (r : Row) : Prop := ct_okC (r 0) ∧ ct_okZ (r 1)
/-- the cells of the blocks: of one worker, of a world -/
def Bk (lo hi q : Nat) : Prop := (hi = lo + 15 ∧ (q = lo + 6 ∨ q = lo + 9 ∨ q = lo + 12)) ∨ (hi = lo + 52 ∧ (q = lo + 13 ∨ q = lo + 16 ∨ q = lo + 19 ∨ q = lo + 28 ∨ q = lo + 31 ∨ q = lo + 34 ∨ q = lo + 43 ∨ q = lo + 46 ∨ q = lo + 49))
def Fr (m m' : ct_M) (lo hi : Nat) : Prop := (m'.2 = m.2 ∧ ∀ q, Bk lo hi q → OkB (m.1 q) → OkB (m'.1 q)) ∧ ∀ q, q < lo ∨ hi ≤ q → m'.1 q = m.1 q
theorem Fr.rfl' {m : ct_M} {lo hi : Nat} : Fr m m lo hi := ⟨⟨rfl, fun _ _ h => h⟩, fun _ _ => rfl⟩
theorem Fr.tr {m m' m'' : ct_M} {lo hi : Nat} (h : Fr m m' lo hi) (h2 : Fr m' m'' lo hi) : Fr m m'' lo hi := ⟨⟨h2.1.1.trans h.1.1, fun q hq ho => h2.1.2 q hq (h.1.2 q hq ho)⟩, fun q hq => (h2.2 q hq).trans (h.2 q hq)⟩
theorem Fr.mono {m m' : ct_M} {lo hi lo' hi' : Nat} (h : Fr m m' lo hi) (h1 : lo' ≤ lo) (h2 : hi ≤ hi') (h3 : ∀ q, Bk lo' hi' q → lo ≤ q → q < hi → Bk lo hi q := by intro q; unfold Bk; omega) : Fr m m' lo' hi' := ⟨⟨h.1.1, fun q hq ho => by
  by_cases e : q < lo ∨ hi ≤ q
  · rw [h.2 q e]; exact ho
  · exact h.1.2 q (h3 q hq (by omega) (by omega)) ho⟩, fun q hq => h.2 q (by omega)⟩
theorem Fr.pr {m : ct_M} {a lo hi : Nat} {v : Row} (h1 : lo ≤ a) (h2 : a < hi) (h3 : ¬ Bk lo hi a := by unfold Bk; omega) : Fr m (pr m a v) lo hi := ⟨⟨rfl, fun q hq ho => by
  have e : q ≠ a := fun e => h3 (by rw [← e]; exact hq)
  rw [pr_ne _ _ e]; exact ho⟩, fun q hq => pr_ne _ _ (by omega)⟩
theorem Fr.st {m : ct_M} {a j lo hi : Nat} {x : Int32} (h1 : lo ≤ a) (h2 : a < hi) (h3 : ¬ Bk lo hi a := by unfold Bk; omega) : Fr m (ct_st m a j x) lo hi := ⟨⟨rfl, fun q hq ho => by
  have e : q ≠ a := fun e => h3 (by rw [← e]; exact hq)
  rw [ct_st_ne e]; exact ho⟩, fun q hq => ct_st_ne (by omega)⟩
/-- a block's own field -/
theorem Fr.stB {m : ct_M} {a j lo hi : Nat} {x : Int32} (h1 : lo ≤ a) (h2 : a < hi) (h3 : (j = 0 → ct_okC x) ∧ (j = 1 → ct_okZ x)) : Fr m (ct_st m a j x) lo hi := ⟨⟨rfl, fun q hq ho => by
  by_cases e : q = a
  · subst e
    rw [ct_st_eq]
    refine ⟨?_, ?_⟩
    · by_cases e : j = 0
      · subst e; rw [upd_same]; exact h3.1 rfl
      · rw [upd_ne _ _ (by omega)]; exact ho.1
    · by_cases e : j = 1
      · subst e; rw [upd_same]; exact h3.2 rfl
      · rw [upd_ne _ _ (by omega)]; exact ho.2
  · rw [ct_st_ne e]; exact ho⟩, fun q hq => ct_st_ne (by omega)⟩
def RkF (m : ct_M) (w : Nat) (v : Row) (t : Nat) : Prop := m.1 w 1 = v (rAt t) ∧ m.1 w 2 = v (rAt t + 47) ∧ m.1 w 3 = v (rAt t + 48) ∧ m.1 w 4 = v (rAt t + 2) ∧ m.1 w 5 = v (rAt t + 1) ∧ m.1 w 9 = v (rAt t + 16)
def RkR (m : ct_M) (w : Nat) (v : Row) (t : Nat) : Prop := (∃ n : Nat, n < 64 ∧ m.1 (w + 1) 0 = nI n) ∧ ∀ c, c < 6 → (bitSet (m.1 (w + 1) 0) c ↔ ¬ v (rAt t + 3 + c) = 0) ∧ (¬ v (rAt t + 3 + c) = 0 → m.1 (w + 2) c + 1 = v (rAt t + 3 + c))
def RkW (m : ct_M) (w : Nat) (v : Row) (t : Nat) : Prop := m.1 (w + 3) 0 = v (rAt t + 9) ∧ ∀ c, c < 6 → bitSet (v (rAt t + 9)) c → m.1 (w + 4) c = v (rAt t + 10 + c)
def RkB1 (G : Prg) (m : ct_M) (q : Nat) (v : Row) (t k : Nat) : Prop := m.1 q 0 = G 1026 (60 * t + rTok v t k) ∧ m.1 q 1 = v (rB t k + 1) ∧ m.1 q 2 = (if G 1026 (60 * t + rTok v t k) = 40 then G 1028 (60 * t + rTok v t k) + 1 else G 1029 (60 * t + rTok v t k) + 1) ∧ m.1 q 3 = v (rB t k + 2) ∧ m.1 (q + 1) 0 = v (rB t k + 3) ∧ ∀ c, c < 6 → bitSet (v (rB t k + 3)) c → m.1 (q + 2) c = v (rB t k + 4 + c)
def RkB (G : Prg) (m : ct_M) (w : Nat) (v : Row) (t : Nat) : Prop := ∀ k, k < (v (rAt t + 16)).toNatClampNeg → RkB1 G m (w + 6 + 3 * k) v t k
def Rk (G : Prg) (m : ct_M) (w : Nat) (v : Row) (t : Nat) : Prop := RkF m w v t ∧ RkR m w v t ∧ RkW m w v t ∧ RkB G m w v t
/-- it speaks of the worker's own cells and the thread's own places -/
theorem Rk.move {G : Prg} {m m' : ct_M} {w t : Nat} {v v' : Row} (h : Rk G m w v t) (hm : ∀ q, w ≤ q → q < w + 15 → m'.1 q = m.1 q) (hv : ∀ i, rAt t ≤ i → i < rAt t + 49 → v' i = v i) (hk : (v (rAt t + 16)).toNatClampNeg ≤ 3) : Rk G m' w v' t := by
  obtain ⟨⟨a1, a2, a3, a4, a5, a6⟩, ⟨⟨n, n1, n2⟩, r2⟩, ⟨w1, w2⟩, b⟩ := h
  have e16 : v' (rAt t + 16) = v (rAt t + 16) := hv _ (by omega) (by omega)
  refine ⟨⟨?_, ?_, ?_, ?_, ?_, ?_⟩, ⟨⟨n, n1, ?_⟩, fun c hc => ?_⟩, ⟨?_, fun c hc => ?_⟩, fun k hk' => ?_⟩
  · rw [hm w (by omega) (by omega), hv _ (by omega) (by omega)]; exact a1
  · rw [hm w (by omega) (by omega), hv _ (by omega) (by omega)]; exact a2
  · rw [hm w (by omega) (by omega), hv _ (by omega) (by omega)]; exact a3
  · rw [hm w (by omega) (by omega), hv _ (by omega) (by omega)]; exact a4
  · rw [hm w (by omega) (by omega), hv _ (by omega) (by omega)]; exact a5
  · rw [hm w (by omega) (by omega), hv _ (by omega) (by omega)]; exact a6
  · rw [hm (w + 1) (by omega) (by omega)]; exact n2
  · rw [hm (w + 1) (by omega) (by omega), hm (w + 2) (by omega) (by omega), hv _ (by omega) (by omega)]; exact r2 c hc
  · rw [hm (w + 3) (by omega) (by omega), hv _ (by omega) (by omega)]; exact w1
  · rw [hm (w + 4) (by omega) (by omega), hv (rAt t + 9) (by omega) (by omega), hv (rAt t + 10 + c) (by omega) (by omega)]; exact w2 c hc
  · rw [e16] at hk'
    have hB : rB t k = rAt t + 17 + 10 * k := rfl
    have et : rTok v' t k = rTok v t k := by unfold rTok; rw [hv _ (by omega) (by omega)]
    obtain ⟨b1, b2, b3, b4, b5, b6⟩ := b k hk'
    unfold RkB1
    rw [et, hm (w + 6 + 3 * k) (by omega) (by omega), hm (w + 6 + 3 * k + 1) (by omega) (by omega), hm (w + 6 + 3 * k + 2) (by omega) (by omega), hv (rB t k + 1) (by omega) (by omega), hv (rB t k + 2) (by omega) (by omega), hv (rB t k + 3) (by omega) (by omega)]
    refine ⟨b1, b2, b3, b4, b5, fun c hc hb => ?_⟩
    rw [hv (rB t k + 4 + c) (by omega) (by omega)]
    exact b6 c hc hb
theorem c_become {w : Nat} {how : Int32} {Q : ct_M → Prop} {m : ct_M} (h : ∀ m' : ct_M, Fr m m' w (w + 15) → m'.1 w = upd (upd (upd (upd (m.1 w) 1 how) 4 0) 5 0) 9 0 → m'.1 (w + 1) = upd (m.1 (w + 1)) 0 0 → m'.1 (w + 3) = upd (m.1 (w + 3)) 0 0 → (∀ q, q ≠ w → q ≠ w + 1 → q ≠ w + 3 → m'.1 q = m.1 q) → Q m') : wp_X9_become w how Q m := by
  unfold wp_X9_become
  simp only [forall_eq]
  refine h _ ?_ ?_ ?_ ?_ ?_
  · exact (((((Fr.st (by omega) (by omega)).tr (Fr.st (by omega) (by omega))).tr (Fr.st (by omega) (by omega))).tr (Fr.st (by omega) (by omega))).tr (Fr.st (by omega) (by omega))).tr (Fr.st (by omega) (by omega))
  · simp (disch := omega) only [pr_st, pr_at, pr_ne, ne_eq, pr_pr]
  · simp (disch := omega) only [pr_st, pr_at, pr_ne, ne_eq, pr_pr]
  · simp (disch := omega) only [pr_st, pr_at, pr_ne, ne_eq, pr_pr]
  · intro q h1 h2 h3
    rw [ct_st_ne h1, ct_st_ne h3, ct_st_ne h2, ct_st_ne h1, ct_st_ne h1, ct_st_ne h1]
theorem bit0 (c : Nat) (hc : c < 6) : ¬ bitSet 0 c := by
  have : ∀ c, c < 6 → ¬ ((0 : Int32) >>> (nI c &&& 31)) &&& 1 = 1 := by decide
  exact this c hc
theorem Rk_stop {G : Prg} {m m' : ct_M} {w t : Nat} {v : Row} {how : Int32} (h : Rk G m w v t) (e1 : m'.1 w = upd (upd (upd (upd (m.1 w) 1 how) 4 0) 5 0) 9 0) (e2 : m'.1 (w + 1) = upd (m.1 (w + 1)) 0 0) (e3 : m'.1 (w + 3) = upd (m.1 (w + 3)) 0 0) : Rk G m' w (rStop v t how) t := by
  obtain ⟨⟨a1, a2, a3, a4, a5, a6⟩, -, -, -⟩ := h
  have z : ∀ j, 1 ≤ j → j < 47 → rStop v t how (rAt t + j) = 0 := fun j h1 h2 => by
    unfold rStop rBegin; rw [upd_ne _ _ (by omega), if_pos (by omega)]
  have y : ∀ j, 47 ≤ j → rStop v t how (rAt t + j) = v (rAt t + j) := fun j h1 => by
    unfold rStop rBegin; rw [upd_ne _ _ (by omega), if_neg (by omega)]
  have z0 : rStop v t how (rAt t) = how := upd_same _ _ _
  refine ⟨⟨?_, ?_, ?_, ?_, ?_, ?_⟩, ⟨⟨0, by decide, ?_⟩, fun c hc => ?_⟩, ⟨?_, fun c hc hb => ?_⟩, fun k hk => ?_⟩
  · rw [e1, z0]; simp [upd]
  · rw [e1, y 47 (by omega), ← a2]; simp [upd]
  · rw [e1, y 48 (by omega), ← a3]; simp [upd]
  · rw [e1, z 2 (by omega) (by omega)]; simp [upd]
  · rw [e1, z 1 (by omega) (by omega)]; simp [upd]
  · rw [e1, z 16 (by omega) (by omega)]; simp [upd]
  · rw [e2]; simp [upd]; rfl
  · rw [e2, show rAt t + 3 + c = rAt t + (3 + c) by omega, z (3 + c) (by omega) (by omega), upd_same]
    exact ⟨⟨fun hb => absurd hb (bit0 c hc), fun hb => absurd rfl hb⟩, fun hb => absurd rfl hb⟩
  · rw [e3, z 9 (by omega) (by omega)]; simp [upd]
  · rw [z 9 (by omega) (by omega)] at hb
    exact absurd hb (bit0 c hc)
  · rw [z 16 (by omega) (by omega)] at hk
    exact absurd hk (by rw [show Int32.toNatClampNeg 0 = 0 from rfl]; omega)
theorem c_startAgain {w : Nat} {Q : ct_M → Prop} {m : ct_M} (h : ∀ m' : ct_M, Fr m m' w (w + 15) → m'.1 w = upd (upd (upd (upd (upd (m.1 w) 3 (m.1 w 3 + 1)) 1 0) 4 0) 5 0) 9 0 → m'.1 (w + 1) = upd (m.1 (w + 1)) 0 0 → m'.1 (w + 3) = upd (m.1 (w + 3)) 0 0 → Q m') : wp_X9_startAgain w Q m := by
  unfold wp_X9_startAgain
  simp only [forall_eq]
  refine c_become (fun m' f1 g1 g2 g3 g4 => h m' ((Fr.st (by omega) (by omega)).tr f1) ?_ ?_ ?_)
  · rw [g1, pr_st, pr_at]
  · rw [g2, ct_st_ne (by omega)]
  · rw [g3, ct_st_ne (by omega)]
theorem Rk_restart {G : Prg} {m m' : ct_M} {w t : Nat} {v : Row} (h : Rk G m w v t) (e1 : m'.1 w = upd (upd (upd (upd (upd (m.1 w) 3 (m.1 w 3 + 1)) 1 0) 4 0) 5 0) 9 0) (e2 : m'.1 (w + 1) = upd (m.1 (w + 1)) 0 0) (e3 : m'.1 (w + 3) = upd (m.1 (w + 3)) 0 0) : Rk G m' w (rRestart v t) t := by
  have hs := Rk_stop (m' := pr m' w (upd (upd (upd (upd (m.1 w) 1 0) 4 0) 5 0) 9 0)) (how := 0) h (pr_at _ _ _) (by rw [pr_ne _ _ (by omega)]; exact e2) (by rw [pr_ne _ _ (by omega)]; exact e3)
  obtain ⟨⟨a1, a2, a3, a4, a5, a6⟩, ⟨⟨n, n1, n2⟩, r2⟩, ⟨w1, w2⟩, b⟩ := hs
  have ne : ∀ j, j < 49 → j ≠ 48 → rRestart v t (rAt t + j) = rStop v t 0 (rAt t + j) := fun j _ h => upd_ne _ _ (by omega)
  have y48 : rStop v t 0 (rAt t + 48) = v (rAt t + 48) := by unfold rStop rBegin; rw [upd_ne _ _ (by omega), if_neg (by omega)]
  rw [pr_at] at a1 a2 a3 a4 a5 a6
  rw [pr_ne _ _ (by omega)] at n2 w1
  refine ⟨⟨?_, ?_, ?_, ?_, ?_, ?_⟩, ⟨⟨n, n1, n2⟩, fun c hc => ?_⟩, ⟨?_, fun c hc hb => ?_⟩, fun k hk => ?_⟩
  · rw [e1, show rAt t = rAt t + 0 from rfl, ne 0 (by omega) (by omega)]; rw [show rAt t + 0 = rAt t from rfl, ← a1]; simp [upd]
  · rw [e1, ne 47 (by omega) (by omega), ← a2]; simp [upd]
  · rw [e1]; unfold rRestart; rw [upd_same, y48, ← h.1.2.2.1]; simp [upd]
  · rw [e1, ne 2 (by omega) (by omega), ← a4]; simp [upd]
  · rw [e1, ne 1 (by omega) (by omega), ← a5]; simp [upd]
  · rw [e1, ne 16 (by omega) (by omega), ← a6]; simp [upd]
  · have := r2 c hc
    rw [pr_ne _ _ (by omega), pr_ne _ _ (by omega)] at this
    rw [show rAt t + 3 + c = rAt t + (3 + c) by omega, ne (3 + c) (by omega) (by omega)]
    rw [show rAt t + 3 + c = rAt t + (3 + c) by omega] at this
    exact this
  · rw [ne 9 (by omega) (by omega)]; exact w1
  · rw [ne 9 (by omega) (by omega)] at hb
    have z : rStop v t 0 (rAt t + 9) = 0 := by unfold rStop rBegin; rw [upd_ne _ _ (by omega), if_pos (by omega)]
    rw [z] at hb
    exact absurd hb (bit0 c hc)
  · rw [ne 16 (by omega) (by omega)] at hk
    have z : rStop v t 0 (rAt t + 16) = 0 := by unfold rStop rBegin; rw [upd_ne _ _ (by omega), if_pos (by omega)]
    rw [z] at hk
    exact absurd hk (by rw [show Int32.toNatClampNeg 0 = 0 from rfl]; omega)
