/-! the getters -/
theorem k_value {B : Nat} {K : ct_M → Prop} {X : Prop} {p : Int32} {m : ct_M} (h : INV B m) (hX : X) (hK : ∀ m', INV (B + 400) m' → K m') : wp_X11_value 0 p (fun r m1 => X ∧ wp_X12_value 1023 p (Same K r) m1) m := by
  have hk : ∀ x, K (ct_st m 1023 0 x) := fun x => hK _ ((INV_0 h x).mono (by omega))
  obtain ⟨-, -, -, G, T, N, D, ⟨c1, c2, c3, c4, c5, c6, c7, c8⟩, -⟩ := h
  have l1 : ct_ln (0 + 26 + 1) = 6 := by decide +kernel
  unfold wp_X11_value wp_X12_value
  refine c_isCell' (fun c hc e => ⟨fun z => absurd z (by decide), fun _ => ?_⟩) (fun e => ⟨fun _ => ⟨hX, ?_⟩, fun z => absurd rfl z⟩)
  · subst e
    simp (disch := omega) only [vp_nI, cl, l1, fa_eq, ln1030]
    refine ⟨hc, hX, r_noCell (fun c' hc' e' => ⟨fun _ => ⟨by omega, ?_⟩, fun z => absurd rfl z⟩) (fun e => absurd rfl (e c hc))⟩
    rw [ct_st_ne (by decide), show 0 + 26 + 1 = 26 + 1 from rfl, c7.1.1 c hc]
    exact Same.mk (hk _)
  · intro m1 e1
    subst e1
    exact r_noCell (fun c hc e' => absurd e' (e c hc)) (fun _ => ⟨fun z => absurd z (by decide), fun _ => Same.mk (hk _)⟩)
theorem k_version {B : Nat} {K : ct_M → Prop} {X : Prop} {p : Int32} {m : ct_M} (h : INV B m) (hX : X) (hK : ∀ m', INV (B + 400) m' → K m') : wp_X11_version 0 p (fun r m1 => X ∧ wp_X12_version 1023 p (Same K r) m1) m := by
  have hk : ∀ x, K (ct_st m 1023 0 x) := fun x => hK _ ((INV_0 h x).mono (by omega))
  obtain ⟨-, -, -, G, T, N, D, ⟨c1, c2, c3, c4, c5, c6, c7, c8⟩, -⟩ := h
  have l1 : ct_ln (0 + 26 + 2) = 6 := by decide +kernel
  unfold wp_X11_version wp_X12_version
  refine c_isCell' (fun c hc e => ⟨fun z => absurd z (by decide), fun _ => ?_⟩) (fun e => ⟨fun _ => ⟨hX, ?_⟩, fun z => absurd rfl z⟩)
  · subst e
    simp (disch := omega) only [vp_nI, cl, l1, fa_eq, ln1030, nI_ofNat, nI_add]
    refine ⟨hc, hX, r_noCell (fun c' hc' e' => ⟨fun _ => ⟨by omega, ?_⟩, fun z => absurd rfl z⟩) (fun e => absurd rfl (e c hc))⟩
    rw [ct_st_ne (by decide), show 0 + 26 + 2 = 26 + 2 from rfl, c7.1.2 c hc]
    exact Same.mk (hk _)
  · intro m1 e1
    subst e1
    exact r_noCell (fun c hc e' => absurd e' (e c hc)) (fun _ => ⟨fun z => absurd z (by decide), fun _ => Same.mk (hk _)⟩)
theorem k_threadCount {B : Nat} {K : ct_M → Prop} {m : ct_M} (h : INV B m) (hK : ∀ m', INV (B + 400) m' → K m') : wp_X11_threadCount 0 (fun r m1 => wp_X12_threadCount 1023 (Same K r) m1) m := by
  have hk : ∀ x, K (ct_st m 1023 0 x) := fun x => hK _ ((INV_0 h x).mono (by omega))
  obtain ⟨-, -, -, G, T, N, D, ⟨c1, c2, c3, c4, c5, c6, c7, c8⟩, -⟩ := h
  unfold wp_X11_threadCount wp_X12_threadCount
  intro m1 e1
  subst e1
  rw [show 0 + 26 = 26 from rfl, c7.2.1, ct_st_eq, upd_ne _ _ (by decide), c4]
  exact Same.mk (hk _)
theorem k_state {B : Nat} {K : ct_M → Prop} {X : Prop} {p : Int32} {m : ct_M} (h : INV B m) (hX : X) (hK : ∀ m', INV (B + 400) m' → K m') : wp_X11_state 0 p (fun r m1 => X ∧ wp_X12_state 1023 p (Same K r) m1) m := by
  have hk : ∀ x, K (ct_st m 1023 0 x) := fun x => hK _ ((INV_0 h x).mono (by omega))
  obtain ⟨-, -, -, G, T, N, D, ⟨c1, c2, c3, c4, c5, c6, c7, c8⟩, -⟩ := h
  have c4' : (ct_st m 1023 0 (0 : Int32)).1 1023 4 = nI T := by rw [ct_st_eq, upd_ne _ _ (by decide)]; exact c4
  unfold wp_X11_state wp_X12_state
  refine c_hasThread c2 c7.2.1 (fun t ht e => ⟨fun z => absurd z (by decide), fun _ => ?_⟩) (fun e => ⟨fun _ => ⟨hX, ?_⟩, fun z => absurd rfl z⟩)
  · subst e
    simp (disch := omega) only [vp_nI, cl, ln29, fa_eq]
    refine ⟨by omega, hX, r_noThread c2 c1 c4' (fun t' ht' e' => ⟨fun _ => r_at' ?_, fun z => absurd rfl z⟩) (fun e => absurd rfl (e t ht))⟩
    simp (disch := omega) only [vp_nI, cl, ln1030, nI_ofNat, nI_add]
    refine ⟨by omega, ?_⟩
    rw [ct_st_ne (by decide), show 0 + 26 + 3 + 4 + 15 * t = 26 + 7 + 15 * t by omega]
    have rk := c7.2.2.2 t ht
    have hr : rAt t = 25 + 49 * t := rfl
    have e := rk.1.1
    rw [hr] at e
    rw [e]
    exact Same.mk (hk _)
  · intro m1 e1
    subst e1
    exact r_noThread c2 c1 c4' (fun t ht e' => absurd e' (e t ht)) (fun _ => ⟨fun z => absurd z (by decide), fun _ => Same.mk (hk _)⟩)
theorem k_position {B : Nat} {K : ct_M → Prop} {X : Prop} {p : Int32} {m : ct_M} (h : INV B m) (hX : X) (hK : ∀ m', INV (B + 400) m' → K m') : wp_X11_position 0 p (fun r m1 => X ∧ wp_X12_position 1023 p (Same K r) m1) m := by
  have hk : ∀ x, K (ct_st m 1023 0 x) := fun x => hK _ ((INV_0 h x).mono (by omega))
  obtain ⟨-, -, -, G, T, N, D, ⟨c1, c2, c3, c4, c5, c6, c7, c8⟩, -⟩ := h
  have c4' : (ct_st m 1023 0 (0 : Int32)).1 1023 4 = nI T := by rw [ct_st_eq, upd_ne _ _ (by decide)]; exact c4
  unfold wp_X11_position wp_X12_position
  refine c_hasThread c2 c7.2.1 (fun t ht e => ⟨fun z => absurd z (by decide), fun _ => ?_⟩) (fun e => ⟨fun _ => ⟨hX, ?_⟩, fun z => absurd rfl z⟩)
  · subst e
    simp (disch := omega) only [vp_nI, cl, ln29, fa_eq]
    refine ⟨by omega, hX, r_noThread c2 c1 c4' (fun t' ht' e' => ⟨fun _ => r_at' ?_, fun z => absurd rfl z⟩) (fun e => absurd rfl (e t ht))⟩
    simp (disch := omega) only [vp_nI, cl, ln1030, nI_ofNat, nI_add]
    refine ⟨by omega, ?_⟩
    rw [ct_st_ne (by decide), show 0 + 26 + 3 + 4 + 15 * t = 26 + 7 + 15 * t by omega]
    have rk := c7.2.2.2 t ht
    have hr : rAt t = 25 + 49 * t := rfl
    have e := rk.1.2.2.2.2.1
    rw [hr] at e
    rw [e]
    exact Same.mk (hk _)
  · intro m1 e1
    subst e1
    exact r_noThread c2 c1 c4' (fun t ht e' => absurd e' (e t ht)) (fun _ => ⟨fun z => absurd z (by decide), fun _ => Same.mk (hk _)⟩)
theorem k_accumulator {B : Nat} {K : ct_M → Prop} {X : Prop} {p : Int32} {m : ct_M} (h : INV B m) (hX : X) (hK : ∀ m', INV (B + 400) m' → K m') : wp_X11_accumulator 0 p (fun r m1 => X ∧ wp_X12_accumulator 1023 p (Same K r) m1) m := by
  have hk : ∀ x, K (ct_st m 1023 0 x) := fun x => hK _ ((INV_0 h x).mono (by omega))
  obtain ⟨-, -, -, G, T, N, D, ⟨c1, c2, c3, c4, c5, c6, c7, c8⟩, -⟩ := h
  have c4' : (ct_st m 1023 0 (0 : Int32)).1 1023 4 = nI T := by rw [ct_st_eq, upd_ne _ _ (by decide)]; exact c4
  unfold wp_X11_accumulator wp_X12_accumulator
  refine c_hasThread c2 c7.2.1 (fun t ht e => ⟨fun z => absurd z (by decide), fun _ => ?_⟩) (fun e => ⟨fun _ => ⟨hX, ?_⟩, fun z => absurd rfl z⟩)
  · subst e
    simp (disch := omega) only [vp_nI, cl, ln29, fa_eq]
    refine ⟨by omega, hX, r_noThread c2 c1 c4' (fun t' ht' e' => ⟨fun _ => r_at' ?_, fun z => absurd rfl z⟩) (fun e => absurd rfl (e t ht))⟩
    simp (disch := omega) only [vp_nI, cl, ln1030, nI_ofNat, nI_add]
    refine ⟨by omega, ?_⟩
    rw [ct_st_ne (by decide), show 0 + 26 + 3 + 4 + 15 * t = 26 + 7 + 15 * t by omega]
    have rk := c7.2.2.2 t ht
    have hr : rAt t = 25 + 49 * t := rfl
    have e := rk.1.2.2.2.1
    rw [hr] at e
    rw [e]
    exact Same.mk (hk _)
  · intro m1 e1
    subst e1
    exact r_noThread c2 c1 c4' (fun t ht e' => absurd e' (e t ht)) (fun _ => ⟨fun z => absurd z (by decide), fun _ => Same.mk (hk _)⟩)
theorem k_openBlocks {B : Nat} {K : ct_M → Prop} {X : Prop} {p : Int32} {m : ct_M} (h : INV B m) (hX : X) (hK : ∀ m', INV (B + 400) m' → K m') : wp_X11_openBlocks 0 p (fun r m1 => X ∧ wp_X12_openBlocks 1023 p (Same K r) m1) m := by
  have hk : ∀ x, K (ct_st m 1023 0 x) := fun x => hK _ ((INV_0 h x).mono (by omega))
  obtain ⟨-, -, -, G, T, N, D, ⟨c1, c2, c3, c4, c5, c6, c7, c8⟩, -⟩ := h
  have c4' : (ct_st m 1023 0 (0 : Int32)).1 1023 4 = nI T := by rw [ct_st_eq, upd_ne _ _ (by decide)]; exact c4
  unfold wp_X11_openBlocks wp_X12_openBlocks
  refine c_hasThread c2 c7.2.1 (fun t ht e => ⟨fun z => absurd z (by decide), fun _ => ?_⟩) (fun e => ⟨fun _ => ⟨hX, ?_⟩, fun z => absurd rfl z⟩)
  · subst e
    simp (disch := omega) only [vp_nI, cl, ln29, fa_eq]
    refine ⟨by omega, hX, r_noThread c2 c1 c4' (fun t' ht' e' => ⟨fun _ => r_at' ?_, fun z => absurd rfl z⟩) (fun e => absurd rfl (e t ht))⟩
    simp (disch := omega) only [vp_nI, cl, ln1030, nI_ofNat, nI_add]
    refine ⟨by omega, ?_⟩
    rw [ct_st_ne (by decide), show 0 + 26 + 3 + 4 + 15 * t = 26 + 7 + 15 * t by omega]
    have rk := c7.2.2.2 t ht
    have hr : rAt t = 25 + 49 * t := rfl
    have e := rk.1.2.2.2.2.2
    rw [hr] at e
    rw [e]
    exact Same.mk (hk _)
  · intro m1 e1
    subst e1
    exact r_noThread c2 c1 c4' (fun t ht e' => absurd e' (e t ht)) (fun _ => ⟨fun z => absurd z (by decide), fun _ => Same.mk (hk _)⟩)
theorem k_runsLeft {B : Nat} {K : ct_M → Prop} {X : Prop} {p : Int32} {m : ct_M} (h : INV B m) (hX : X) (hK : ∀ m', INV (B + 400) m' → K m') : wp_X11_runsLeft 0 p (fun r m1 => X ∧ wp_X12_runsLeft 1023 p (Same K r) m1) m := by
  have hk : ∀ x, K (ct_st m 1023 0 x) := fun x => hK _ ((INV_0 h x).mono (by omega))
  obtain ⟨-, -, -, G, T, N, D, ⟨c1, c2, c3, c4, c5, c6, c7, c8⟩, -⟩ := h
  have c4' : (ct_st m 1023 0 (0 : Int32)).1 1023 4 = nI T := by rw [ct_st_eq, upd_ne _ _ (by decide)]; exact c4
  unfold wp_X11_runsLeft wp_X12_runsLeft
  refine c_hasThread c2 c7.2.1 (fun t ht e => ⟨fun z => absurd z (by decide), fun _ => ?_⟩) (fun e => ⟨fun _ => ⟨hX, ?_⟩, fun z => absurd rfl z⟩)
  · subst e
    simp (disch := omega) only [vp_nI, cl, ln29, fa_eq]
    refine ⟨by omega, hX, r_noThread c2 c1 c4' (fun t' ht' e' => ⟨fun _ => r_at' ?_, fun z => absurd rfl z⟩) (fun e => absurd rfl (e t ht))⟩
    simp (disch := omega) only [vp_nI, cl, ln1030, nI_ofNat, nI_add]
    refine ⟨by omega, ?_⟩
    rw [ct_st_ne (by decide), show 0 + 26 + 3 + 4 + 15 * t = 26 + 7 + 15 * t by omega]
    have rk := c7.2.2.2 t ht
    have hr : rAt t = 25 + 49 * t := rfl
    have e := rk.1.2.1
    rw [hr] at e
    rw [e]
    exact Same.mk (hk _)
  · intro m1 e1
    subst e1
    exact r_noThread c2 c1 c4' (fun t ht e' => absurd e' (e t ht)) (fun _ => ⟨fun z => absurd z (by decide), fun _ => Same.mk (hk _)⟩)
theorem k_restarts {B : Nat} {K : ct_M → Prop} {X : Prop} {p : Int32} {m : ct_M} (h : INV B m) (hX : X) (hK : ∀ m', INV (B + 400) m' → K m') : wp_X11_restarts 0 p (fun r m1 => X ∧ wp_X12_restarts 1023 p (Same K r) m1) m := by
  have hk : ∀ x, K (ct_st m 1023 0 x) := fun x => hK _ ((INV_0 h x).mono (by omega))
  obtain ⟨-, -, -, G, T, N, D, ⟨c1, c2, c3, c4, c5, c6, c7, c8⟩, -⟩ := h
  have c4' : (ct_st m 1023 0 (0 : Int32)).1 1023 4 = nI T := by rw [ct_st_eq, upd_ne _ _ (by decide)]; exact c4
  unfold wp_X11_restarts wp_X12_restarts
  refine c_hasThread c2 c7.2.1 (fun t ht e => ⟨fun z => absurd z (by decide), fun _ => ?_⟩) (fun e => ⟨fun _ => ⟨hX, ?_⟩, fun z => absurd rfl z⟩)
  · subst e
    simp (disch := omega) only [vp_nI, cl, ln29, fa_eq]
    refine ⟨by omega, hX, r_noThread c2 c1 c4' (fun t' ht' e' => ⟨fun _ => r_at' ?_, fun z => absurd rfl z⟩) (fun e => absurd rfl (e t ht))⟩
    simp (disch := omega) only [vp_nI, cl, ln1030, nI_ofNat, nI_add]
    refine ⟨by omega, ?_⟩
    rw [ct_st_ne (by decide), show 0 + 26 + 3 + 4 + 15 * t = 26 + 7 + 15 * t by omega]
    have rk := c7.2.2.2 t ht
    have hr : rAt t = 25 + 49 * t := rfl
    have e := rk.1.2.2.1
    rw [hr] at e
    rw [e]
    exact Same.mk (hk _)
  · intro m1 e1
    subst e1
    exact r_noThread c2 c1 c4' (fun t ht e' => absurd e' (e t ht)) (fun _ => ⟨fun z => absurd z (by decide), fun _ => Same.mk (hk _)⟩)
theorem k_writeSet {B : Nat} {K : ct_M → Prop} {X : Prop} {p : Int32} {m : ct_M} (h : INV B m) (hX : X) (hK : ∀ m', INV (B + 400) m' → K m') : wp_X11_writeSet 0 p (fun r m1 => X ∧ wp_X12_writeSet 1023 p (Same K r) m1) m := by
  have hk : ∀ x, K (ct_st m 1023 0 x) := fun x => hK _ ((INV_0 h x).mono (by omega))
  obtain ⟨-, -, -, G, T, N, D, ⟨c1, c2, c3, c4, c5, c6, c7, c8⟩, -⟩ := h
  have c4' : (ct_st m 1023 0 (0 : Int32)).1 1023 4 = nI T := by rw [ct_st_eq, upd_ne _ _ (by decide)]; exact c4
  unfold wp_X11_writeSet wp_X12_writeSet
  refine c_hasThread c2 c7.2.1 (fun t ht e => ⟨fun z => absurd z (by decide), fun _ => ?_⟩) (fun e => ⟨fun _ => ⟨hX, ?_⟩, fun z => absurd rfl z⟩)
  · subst e
    simp (disch := omega) only [vp_nI, cl, ln29, fa_eq]
    refine ⟨by omega, hX, r_noThread c2 c1 c4' (fun t' ht' e' => ⟨fun _ => r_at' ?_, fun z => absurd rfl z⟩) (fun e => absurd rfl (e t ht))⟩
    simp (disch := omega) only [vp_nI, cl, ln1030, nI_ofNat, nI_add]
    refine ⟨by omega, ?_⟩
    rw [ct_st_ne (by decide), show 0 + 26 + 3 + 4 + 15 * t = 26 + 7 + 15 * t by omega]
    have rk := c7.2.2.2 t ht
    have hr : rAt t = 25 + 49 * t := rfl
    have e := rk.2.2.1.1
    rw [hr] at e
    rw [e]
    exact Same.mk (hk _)
  · intro m1 e1
    subst e1
    exact r_noThread c2 c1 c4' (fun t ht e' => absurd e' (e t ht)) (fun _ => ⟨fun z => absurd z (by decide), fun _ => Same.mk (hk _)⟩)
