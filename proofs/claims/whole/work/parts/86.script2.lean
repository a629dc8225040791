theorem r_cmd {G : Prg} {T B : Nat} {N : Nat → Nat} {D : Nat → Nat → Nat} {v : Row} {w d1 d2 d3 : Int32} {Q : Int32 → ct_M → Prop} {m : ct_M} (hT : T ≤ 3) (hT0 : 0 < T) (hs : PSs G T N D) (hG : HasP G m) (hth : m.1 1023 4 = nI T) (h9 : d3.toInt ≤ 9) (hB : B + 54 < 2 ^ 29) (h : RWf G T N D B v)
    (hq : Q (fCmd G T v w d1 d2 d3).1 (refC m (fCmd G T v w d1 d2 d3).2.2 (fCmd G T v w d1 d2 d3).2.1)) : wp_X12_command 1023 d1 d2 d3 Q (refC m w v) := by
  have no : ∀ z : Int32, fCmd G T v w d1 d2 d3 = (z, v, w) → Q z (refC m w v) := fun z e => by rw [e] at hq; exact hq
  have e31 : ∀ j, (refC m w v).1 (1023 + 8) j = v j := fun j => congrFun refC_31 j
  have core : ∀ v4 s0 : Int32, ((v4 = 1 ∧ ∃ t : Nat, t < T ∧ d2 = nI t) ∨ (v4 = 0 ∧ ∀ t : Nat, t < T → ¬ d2 = nI t)) → ((s0 = 1 ∧ ∃ c : Nat, c < 6 ∧ d2 = nI c) ∨ (s0 = 0 ∧ ∀ c : Nat, c < 6 → ¬ d2 = nI c)) → wb_X12_command_27 Q 1023 d1 d2 d3 v4 s0 (refC m w v) := by
    intro v4 s0 h4 h0
    have stop : fCmd G T v w d1 d2 d3 = (0, v, w) → wb_X12_command_77 Q 1023 d2 d3 (refC m w v) := by
      intro e
      unfold wb_X12_command_77 wb_X12_command_78
      refine ⟨1, ?_⟩
      unfold wb_X12_command_83
      exact ⟨fun _ => ⟨okZ0, no 0 e⟩, fun _ => ⟨fun _ => ⟨okZ0, no 0 e⟩, fun z => absurd rfl z⟩⟩
    unfold wb_X12_command_27
    refine ⟨fun c1 => ⟨fun z4 => stop ?_, fun z4 => ⟨fun z => stop ?_, fun z => ?_⟩⟩, fun c1 => ⟨fun c2 => ⟨fun z4 => no 0 ?_, fun z4 => ?_⟩, fun c2 => ⟨fun c3 => ⟨fun z4 => no 0 ?_, fun z4 => ?_⟩, fun c3 => ⟨fun c4 => ⟨fun z4 => no 0 ?_, fun z4 => ?_⟩, fun c4 => ⟨fun c5 => ⟨fun z4 => no 0 ?_, fun z4 => ?_⟩, fun c5 => no 0 ?_⟩⟩⟩⟩⟩
    · unfold fCmd; rw [cif_t c1, cif_f]
      rintro ⟨⟨t, ht, y⟩, -⟩
      rcases h4 with ⟨q, -⟩ | ⟨-, q⟩
      · rw [z4] at q; exact absurd q (by decide)
      · exact q t ht y
    · unfold fCmd; rw [cif_t c1, cif_f (fun y => y.2 z)]
    · rcases h4 with ⟨-, t, ht, e⟩ | ⟨q, -⟩
      · obtain ⟨d, hd, hd0, ed⟩ := d3_cls h9 z
        have ef : fCmd G T v w d1 d2 d3 = fSteps G T t d v w := by
          unfold fCmd; rw [cif_t c1, cif_t ⟨⟨t, ht, e⟩, z⟩, e, ed, cl (by omega), cl (by omega)]
        rw [ef] at hq
        rw [e, ed]
        unfold wb_X12_command_78
        exact ⟨d + 2, r_steps hT ht hs hG hth d (by omega) d 0 B v w (by omega) (by omega) h hq⟩
      · exact absurd q z4
    · unfold fCmd; rw [cif_f c1, cif_f]
      rintro (⟨-, t, ht, y1, y2⟩ | y | y | y)
      · rcases h4 with ⟨q, -⟩ | ⟨-, q⟩
        · rw [z4] at q; exact absurd q (by decide)
        · exact q t ht y1
      · rw [c2] at y; exact absurd y.1 (by decide)
      · rw [c2] at y; exact absurd y.1 (by decide)
      · rw [c2] at y; exact absurd y.1 (by decide)
    · rcases h4 with ⟨-, t, ht, e⟩ | ⟨q, -⟩
      · rw [e]
        refine r_at' ?_
        simp (disch := omega) only [nI_ofNat 0, nI_add, vp_nI, cl, ln1031, e31]
        refine ⟨by omega, fun z => no 0 ?_, fun z => no 1 ?_⟩
        · unfold fCmd; rw [cif_f c1, cif_f]
          rintro (⟨-, t', ht', y1, y2⟩ | y | y | y)
          · have : t' = t := nI_inj (by omega) (by omega) (y1.symm.trans e)
            subst this; exact z y2
          · rw [c2] at y; exact absurd y.1 (by decide)
          · rw [c2] at y; exact absurd y.1 (by decide)
          · rw [c2] at y; exact absurd y.1 (by decide)
        · unfold fCmd; rw [cif_f c1, cif_t (Or.inl ⟨c2, t, ht, e, z⟩)]
      · exact absurd q z4
    · unfold fCmd; rw [cif_f c1, cif_f]
      rintro (y | ⟨-, t, ht, y1, y2⟩ | y | y)
      · rw [c3] at y; exact absurd y.1 (by decide)
      · rcases h0 with ⟨q, -⟩ | ⟨-, q⟩
        · rw [z4] at q; exact absurd q (by decide)
        · exact q t ht y1
      · rw [c3] at y; exact absurd y.1 (by decide)
      · rw [c3] at y; exact absurd y.1 (by decide)
    · rcases h0 with ⟨-, c, hc, e⟩ | ⟨q, -⟩
      · rw [e]
        simp (disch := omega) only [vp_nI, cl, ln1031, e31]
        refine ⟨by omega, fun z => no 0 ?_, fun z => no 1 ?_⟩
        · unfold fCmd; rw [cif_f c1, cif_f]
          rintro (y | ⟨-, t', ht', y1, y2⟩ | y | y)
          · rw [c3] at y; exact absurd y.1 (by decide)
          · have : t' = c := nI_inj (by omega) (by omega) (y1.symm.trans e)
            subst this; exact z y2
          · rw [c3] at y; exact absurd y.1 (by decide)
          · rw [c3] at y; exact absurd y.1 (by decide)
        · unfold fCmd; rw [cif_f c1, cif_t (Or.inr (Or.inl ⟨c3, c, hc, e, z⟩))]
      · exact absurd q z4
    · unfold fCmd; rw [cif_f c1, cif_f]
      rintro (y | y | ⟨-, t, ht, y1, y2⟩ | y)
      · rw [c4] at y; exact absurd y.1 (by decide)
      · rw [c4] at y; exact absurd y.1 (by decide)
      · rcases h0 with ⟨q, -⟩ | ⟨-, q⟩
        · rw [z4] at q; exact absurd q (by decide)
        · exact q t ht y1
      · rw [c4] at y; exact absurd y.1 (by decide)
    · rcases h0 with ⟨-, c, hc, e⟩ | ⟨q, -⟩
      · rw [e]
        simp (disch := omega) only [nI_ofNat 6, nI_add, vp_nI, cl, ln1031, e31]
        refine ⟨by omega, fun z => no 0 ?_, fun z => no 1 ?_⟩
        · unfold fCmd; rw [cif_f c1, cif_f]
          rintro (y | y | ⟨-, t', ht', y1, y2⟩ | y)
          · rw [c4] at y; exact absurd y.1 (by decide)
          · rw [c4] at y; exact absurd y.1 (by decide)
          · have : t' = c := nI_inj (by omega) (by omega) (y1.symm.trans e)
            subst this; exact z y2
          · rw [c4] at y; exact absurd y.1 (by decide)
        · unfold fCmd; rw [cif_f c1, cif_t (Or.inr (Or.inr (Or.inl ⟨c4, c, hc, e, z⟩)))]
      · exact absurd q z4
    · unfold fCmd; rw [cif_f c1, cif_f]
      rintro (y | y | y | ⟨-, t, ht, y1, y2⟩)
      · rw [c5] at y; exact absurd y.1 (by decide)
      · rw [c5] at y; exact absurd y.1 (by decide)
      · rw [c5] at y; exact absurd y.1 (by decide)
      · rcases h4 with ⟨q, -⟩ | ⟨-, q⟩
        · rw [z4] at q; exact absurd q (by decide)
        · exact q t ht y1
    · rcases h4 with ⟨-, t, ht, e⟩ | ⟨q, -⟩
      · rw [e]
        refine r_at' ?_
        simp (disch := omega) only [nI_ofNat 48, nI_add, vp_nI, cl, ln1031, e31]
        refine ⟨by omega, fun z => no 0 ?_, fun z => no 1 ?_⟩
        · unfold fCmd; rw [cif_f c1, cif_f]
          rintro (y | y | y | ⟨-, t', ht', y1, y2⟩)
          · rw [c5] at y; exact absurd y.1 (by decide)
          · rw [c5] at y; exact absurd y.1 (by decide)
          · rw [c5] at y; exact absurd y.1 (by decide)
          · have : t' = t := nI_inj (by omega) (by omega) (y1.symm.trans e)
            subst this; exact z y2
        · unfold fCmd; rw [cif_f c1, cif_t (Or.inr (Or.inr (Or.inr ⟨c5, t, ht, e, z⟩)))]
      · exact absurd q z4
    · unfold fCmd; rw [cif_f c1, cif_f]
      rintro (y | y | y | y)
      · exact c2 y.1
      · exact c3 y.1
      · exact c4 y.1
      · exact c5 y.1
  unfold wp_X12_command
  refine r_noThread hT hT0 (by rw [refC_23 (by decide)]; exact hth) (fun t ht e => ⟨fun z => absurd rfl z, fun _ => ?_⟩) (fun e => ⟨fun _ => ?_, fun z => absurd z (by decide)⟩)
  · unfold wb_X12_command_13
    refine r_noCell (fun c hc e' => ⟨fun z => absurd rfl z, fun _ => core 1 1 (Or.inl ⟨rfl, t, ht, e⟩) (Or.inl ⟨rfl, c, hc, e'⟩)⟩) (fun e' => ⟨fun _ => core 1 0 (Or.inl ⟨rfl, t, ht, e⟩) (Or.inr ⟨rfl, e'⟩), fun z => absurd z (by decide)⟩)
  · unfold wb_X12_command_13
    refine r_noCell (fun c hc e' => ⟨fun z => absurd rfl z, fun _ => core 0 1 (Or.inr ⟨rfl, e⟩) (Or.inl ⟨rfl, c, hc, e'⟩)⟩) (fun e' => ⟨fun _ => core 0 0 (Or.inr ⟨rfl, e⟩) (Or.inr ⟨rfl, e'⟩), fun z => absurd z (by decide)⟩)
/-- the last digit -/
theorem dig9 (x : Int32) : (x - x / (10 : Int32) * (10 : Int32)).toInt ≤ 9 := by
  have h1 := Int32.le_toInt x
  have h2 := Int32.toInt_lt x
  have e10 : (10 : Int32).toInt = 10 := rfl
  have em := Int.mul_tdiv_add_tmod x.toInt 10
  have r1 := Int.tmod_lt_of_pos x.toInt (by decide : (0 : Int) < 10)
  have r2 := Int.lt_tmod_of_pos x.toInt (by decide : (0 : Int) < 10)
  have r3 : 0 ≤ x.toInt → 0 ≤ x.toInt.tmod 10 := fun h => Int.tmod_nonneg 10 h
  have r4 : x.toInt ≤ 0 → x.toInt.tmod 10 ≤ 0 := fun h => by
    have := Int.tmod_nonneg 10 (a := -x.toInt) (by omega)
    rw [Int.neg_tmod] at this
    omega
  have ed : (x / (10 : Int32)).toInt = x.toInt.tdiv 10 := by
    rw [Int32.toInt_div, e10]
    exact Int.bmod_eq_of_le (by omega) (by omega)
  have ep : (x / (10 : Int32) * (10 : Int32)).toInt = x.toInt.tdiv 10 * 10 := by
    rw [Int32.toInt_mul, ed, e10]
    exact Int.bmod_eq_of_le (by omega) (by omega)
  rw [Int32.toInt_sub, ep, Int.bmod_eq_of_le (by omega) (by omega)]
  omega
