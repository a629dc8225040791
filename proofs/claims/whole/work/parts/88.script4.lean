theorem r_assign {Q : ct_M → Prop} {m : ct_M} (h : Q (pr m 1031 (rInto (m.1 1031) (m.1 1030) 172))) : wp_X12_assign (1023 + 7) (1023 + 8) Q m := by
  have loop : ∀ (n j : Nat), j + n = 172 → wb_X12_assign_2 Q (n + 1) (1023 + 7) (1023 + 8) (nI j) (pr m 1031 (rInto (m.1 1031) (m.1 1030) j)) := by
    intro n
    induction n with
    | zero =>
      intro j hj
      have : j = 172 := by omega
      subst this
      unfold wb_X12_assign_2
      exact ⟨fun _ => h, fun e => absurd (by decide) e⟩
    | succ n ih =>
      intro j hj
      have nx := ih (j + 1) (by omega)
      unfold wb_X12_assign_2
      simp (disch := omega) only [nI_ofNat, cmp_le, nI_add, vp_nI, cl, fa_eq, ln1030, ln1031]
      refine ⟨fun e => absurd e (by omega), fun _ => ⟨by omega, by omega, ?_⟩⟩
      rw [show 1023 + 8 = 1031 from rfl, show 1023 + 7 = 1030 from rfl, pr_ne _ _ (by decide : (1030 : Nat) ≠ 1031), pr_stpr, rInto_step]
      exact nx
  have := loop 172 0 rfl
  have e31 : pr m 1031 (m.1 1031) = m := pr_id m 1031
  rw [rInto_0, e31] at this
  exact ⟨173, this⟩
theorem PW_int : PW 1 = 1000 ∧ PW 2 = 1000000 ∧ PW 3 = 1000000000 ∧ PW 4 = 1000000000000 ∧ PW 0 = 1 := by decide +kernel
theorem div1000 (x : Int64) : (x / (1000 : Int64)).toInt = x.toInt.tdiv 1000 := by
  have h1 := Int64.le_toInt x
  have h2 := Int64.toInt_lt x
  have em := Int.mul_tdiv_add_tmod x.toInt 1000
  have r1 := Int.tmod_lt_of_pos x.toInt (by decide : (0 : Int) < 1000)
  have r2 := Int.lt_tmod_of_pos x.toInt (by decide : (0 : Int) < 1000)
  rw [Int64.toInt_div, show (1000 : Int64).toInt = 1000 from rfl]
  exact Int.bmod_eq_of_le (by omega) (by omega)
theorem fits {n : Nat} {x : Int64} (hn : 0 < n) (hn4 : n ≤ 4) (h0 : 0 ≤ x.toInt) : lg_cmp (x / (1000 : Int64)) (PW (n - 1)) < 0 ↔ x.toInt ≤ (PW n - 1).toInt := by
  rw [lg_lt, div1000]
  have em := Int.mul_tdiv_add_tmod x.toInt 1000
  have r1 := Int.tmod_lt_of_pos x.toInt (by decide : (0 : Int) < 1000)
  have r3 := Int.tmod_nonneg 1000 h0
  obtain ⟨a1, a2, a3, a4, a0⟩ := PW_int
  have : n = 1 ∨ n = 2 ∨ n = 3 ∨ n = 4 := by omega
  rcases this with e | e | e | e <;> subst e
  · rw [show 1 - 1 = 0 from rfl, a0, a1, show ((1000 : Int64) - 1).toInt = 999 from by decide +kernel, show (1 : Int64).toInt = 1 from rfl]; omega
  · rw [show 2 - 1 = 1 from rfl, a1, a2, show ((1000000 : Int64) - 1).toInt = 999999 from by decide +kernel, show (1000 : Int64).toInt = 1000 from by decide +kernel]; omega
  · rw [show 3 - 1 = 2 from rfl, a2, a3, show ((1000000000 : Int64) - 1).toInt = 999999999 from by decide +kernel, show (1000000 : Int64).toInt = 1000000 from by decide +kernel]; omega
  · rw [show 4 - 1 = 3 from rfl, a3, a4, show ((1000000000000 : Int64) - 1).toInt = 999999999999 from by decide +kernel, show (1000000000 : Int64).toInt = 1000000000 from by decide +kernel]; omega
theorem k_runScript {B : Nat} {K : ct_M → Prop} {X Y Z : Prop} {p : Int32} {script : Int64} {m : ct_M} (h : INV B m) (hB : B < 2 ^ 28) (hX : X) (hY : Y) (hZ : Z) (hK : ∀ m', INV (B + 400) m' → K m') : wp_X11_runScript 0 p script (fun r m1 => X ∧ Y ∧ Z ∧ wp_X12_runScript 1023 p script (Same K r) m1) m := by
  have hk : ∀ x, K (ct_st m 1023 0 x) := fun x => hK _ ((INV_0 h x).mono (by omega))
  obtain ⟨hok, hx, hob, G, T, N, D, hcore, hh, hsl⟩ := id h
  obtain ⟨c1, c2, c3, c4, c5, c6, c7, c8⟩ := id hcore
  have tr := RWf_TR c5 c8
  have z0 : (0 : Int64).toInt = 0 := rfl
  have i1 : (1 : Int64).toInt = 1 := rfl
  have i4 : (4 : Int64).toInt = 4 := rfl
  have badn : (p < 1 ∨ (4 : Int32) < p) → wp_X12_runScript 1023 p script (Same K (-2)) m := by
    intro hb
    unfold wp_X12_runScript
    intro m1 e1
    subst e1
    refine r_in (fun a b => ?_) (fun _ => ⟨fun _ => Same.mk (hk _), fun z => absurd rfl z⟩)
    exfalso
    rw [Int32.toInt_toInt64] at a b
    rw [Int32.lt_iff_toInt_lt, Int32.lt_iff_toInt_lt, show (1 : Int32).toInt = 1 from rfl, show (4 : Int32).toInt = 4 from rfl] at hb
    omega
  have nn : ∀ {q : Int32}, ¬ q < 1 → ¬ (4 : Int32) < q → ∃ n : Nat, 0 < n ∧ n ≤ 4 ∧ q = nI n := by
    intro q h1 h2
    rw [Int32.lt_iff_toInt_lt, show (1 : Int32).toInt = 1 from rfl] at h1
    rw [Int32.lt_iff_toInt_lt, show (4 : Int32).toInt = 4 from rfl] at h2
    obtain ⟨n, hn, e, e2⟩ := i32_nI (p := q) (by omega)
    exact ⟨n, by omega, by omega, e⟩
  have bads : ∀ n : Nat, 0 < n → n ≤ 4 → p = nI n → ¬ (0 ≤ script.toInt ∧ script.toInt ≤ (PW n - 1).toInt) → wp_X12_runScript 1023 p script (Same K (-2)) m := by
    intro n hn hn4 e hb
    unfold wp_X12_runScript
    intro m1 e1
    subst e1
    subst e
    refine r_in (fun a b => ⟨fun z => absurd z (by decide), fun _ => ?_⟩) (fun a => ?_)
    · refine r_thousands (by omega) ?_
      exact r_in (fun a b => absurd ⟨by rw [z0] at a; exact a, b⟩ hb) (fun _ => ⟨fun z => absurd rfl z, fun _ => Same.mk (hk _)⟩)
    · exfalso
      apply a
      rw [Int32.toInt_toInt64, nI_toInt (by omega), i1, i4]
      omega
  unfold wp_X11_runScript
  refine ⟨fun e => ⟨hX, hY, hZ, badn (Or.inl e)⟩, fun e => ⟨fun e2 => ⟨hX, hY, hZ, badn (Or.inr e2)⟩, fun e2 => ⟨fun e3 => ?_, fun e3 => ?_⟩⟩⟩
  · obtain ⟨n, hn, hn4, en⟩ := nn e e2
    have hs0 : 0 ≤ script.toInt := by
      have : ¬ lg_cmp script 0 < 0 := fun z => by
        rw [Int32.lt_iff_toInt_lt] at z
        rw [Int32.le_iff_toInt_le] at e3
        omega
      rw [lg_lt, z0] at this
      omega
    subst en
    have loop : ∀ (k j : Nat), j + 1 + k = n → wb_X11_runScript_25 (fun r m1 => X ∧ Y ∧ Z ∧ wp_X12_runScript 1023 (nI n) script (Same K r) m1) (k + 1) 0 (nI n) script (PW j) (nI (j + 1)) m := by
      intro k
      induction k with
      | zero =>
        intro j hj
        have ej : j = n - 1 := by omega
        unfold wb_X11_runScript_25
        refine ⟨fun _ => ⟨fun f => ?_, fun f => ⟨hX, hY, hZ, ?_⟩⟩, fun z => absurd ((cmp_le (by omega) (by omega)).mpr (by omega)) z⟩
        · rw [ej] at f
          have hfit := (fits hn hn4 hs0).mp f
          rw [show 0 + 912 = 912 from rfl, show 0 + 26 = 26 from rfl]
          refine c_wcopy K_912 K_26 (hok _ K_26) (by omega) (fun m1 f1 cp ok1 => ⟨n + 1, ?_⟩)
          generalize hv0 : rInto (m.1 1031) (m.1 1030) 172 = v0
          have ev : ∀ i, i < 172 → v0 i = m.1 1030 i := fun i hi => by rw [← hv0]; exact if_pos hi
          have rw1 : RW G m1 912 v0 T := RW_row (cp G _ T c2 tr c7) c2 tr ev
          have wf : RWf G T N D B v0 := RWf_row c5 c2 c8 ev
          refine c_script (G := G) (T := T) hn4 c2 c5 n 0 B v0 (m.1 1023 29) (PW j) m1 (by omega) (by omega) (fun _ => by rw [ej]; congr 1) (PG_fr (b := 912) c2 (by omega) c6 fun q hq => f1.2 q (by omega)) rw1 wf (fun m2 f2 => ⟨hX, hY, hZ, ?_⟩)
          have f12 := f1.tr f2
          unfold wp_X12_runScript
          intro m3 e3'
          refine r_in (fun a b => ⟨fun z => absurd z (by decide), fun _ => ?_⟩) (fun a => ?_)
          · refine r_thousands (by omega) ?_
            refine r_in (fun a b => ⟨fun _ => ?_, fun z => absurd z (by decide)⟩) (fun a => absurd ⟨by rw [z0]; exact hs0, hfit⟩ a)
            refine r_assign ?_
            have o3 : ∀ q, q ≠ 1023 → m3.1 q = m2.1 q := fun q hq => by rw [e3']; exact ct_st_ne hq
            have s3 : ∀ j, j ≠ 0 → m3.1 1023 j = m.1 1023 j := fun j hj => by rw [e3', ct_st_eq, upd_ne _ _ hj, f12.2 _ (by omega)]
            have up : ∀ q, 1023 < q → m3.1 q = m.1 q := fun q hq => by rw [o3 q (by omega), f12.2 q (by omega)]
            rw [up 1031 (by omega), up 1030 (by omega), hv0]
            have eM : pr m3 1031 v0 = refC m3 (m.1 1023 29) v0 := by
              unfold refC
              rw [← s3 29 (by decide), ct_st_self]
            rw [eM]
            refine ⟨n + 1, r_script (G := G) (T := T) hn4 c2 c1 c5 (fun k k1 k2 => by rw [up k (by omega)]; exact c3 k k1 k2) (by rw [s3 4 (by decide)]; exact c4) n 0 B v0 (m.1 1023 29) (by omega) (by omega) wf ?_⟩
            refine Same.mk (hK _ (INV.mono (B := B) (INV_idle h ⟨fun q q1 q2 q3 => ?_, fun j hj => ?_, fun q q1 q2 q3 => ?_⟩ ?_) (by omega)))
            · rw [refC_ne (by omega) (by omega), o3 q (by omega), f12.2 q (by omega)]
            · rw [refC_23 (by omega)]; exact s3 j (by omega)
            · rw [refC_ne (by omega) q3, up q (by omega)]
            · exact (hok.keep K_912 f12).same fun q hq => by
                have := kd4_low hq
                rw [refC_ne (by omega) (by omega), o3 q (by omega)]
          · exfalso
            apply a
            rw [Int32.toInt_toInt64, nI_toInt (by omega), i1, i4]
            omega
        · rw [ej] at f
          exact bads n hn hn4 rfl fun z => f ((fits hn hn4 hs0).mpr z.2)
      | succ k ih =>
        intro j hj
        have nx := ih (j + 1) (by omega)
        unfold wb_X11_runScript_25
        refine ⟨fun z => absurd ((cmp_le (by omega) (by omega)).mp z) (by omega), fun _ => ?_⟩
        intro x hx y hy
        rw [hx, hy, nI_ofNat 1, nI_add]
        exact nx
    exact ⟨n, by
      have := loop (n - 1) 0 (by omega)
      rw [show n - 1 + 1 = n by omega] at this
      exact this⟩
  · obtain ⟨n, hn, hn4, en⟩ := nn e e2
    refine ⟨hX, hY, hZ, bads n hn hn4 en fun z => e3 ?_⟩
    have : ¬ lg_cmp script 0 < 0 := fun y => by
      rw [lg_lt, z0] at y
      omega
    rw [Int32.lt_iff_toInt_lt] at this
    rw [Int32.le_iff_toInt_le]
    omega
