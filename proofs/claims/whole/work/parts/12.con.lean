abbrev rm_X11_position : Room := { frames := 1, cells := 0, slots := 0, locals := 21 }
set_option maxHeartbeats 4000000 in
set_option maxRecDepth 100000 in
theorem c_X11_position (l : Launch) (D : va_G) (cy : Nat → ClassId) (o : Nat) {a0 : Nat} {p1 : Int32} {Q : Int32 → ct_M → Prop} {m : ct_M} (ka0 : ct_K 11 a0) (h : wp_X11_position a0 p1 Q m) : Met l yX11_position (ct_ws yX11_position cX11_position 2 (some .int)) rm_X11_position (va_Pc [.ref (o + a0), .int p1] (ct_P D cy o ct_NN m)) (va_Qi Q (ct_P D cy o ct_NN) (fun q => o ≤ q)) 0 0 (fun q => o ≤ q) := by
  refine ct_met l D cy o ct_NN m (by decide) (Nat.le_of_ble_eq_true rfl) (fun p e s mth args below meth c C hr hlk => ?_)
  refine ct_sub [0, 1] [(0, .ref (o + a0)), (1, .int p1)] rfl ?_
  unfold wp_X11_position at h
  refine ct_aload_n C dX11_position_0 0 rfl rfl ?_
  refine gf_X11_43 C dX11_position_1 ka0 ?_
  have hk1 := ct_t11_2 ka0
  refine ct_iload_n C dX11_position_4 1 rfl rfl ?_
  refine ct_callVi (As := [.int p1]) (T := TX10) C (c_X10_hasThread l D cy o hk1 h) kv_X11_104 hk1.1 (ct_E10 hk1) rfl rfl rfl (Nat.le_of_ble_eq_true rfl) ⟨rfl, rfl, Nat.le_of_ble_eq_true rfl, Nat.le_of_ble_eq_true rfl⟩ ⟨Nat.zero_le _, Nat.zero_le _⟩ dX11_position_5 (fun r3 m2 h => ?_)
  refine ct_if_eq C dX11_position_8 26 (by decide) (fun hc4 => ?_) (fun hc4 => ?_)
  · have h := h.1 hc4
    refine ct_iconst C dX11_position_26 (-1 : Int32) (by decide) ?_
    exact ct_ireti C hr hlk dX11_position_27 h
  · have h := h.2 hc4
    refine ct_aload_n C dX11_position_11 0 rfl rfl ?_
    refine gf_X11_43 C dX11_position_12 ka0 ?_
    refine gf_X11_107 C dX11_position_15 hk1 ?_
    have hk5 := ct_t10_2 hk1
    refine ct_iload_n C dX11_position_18 1 rfl rfl ?_
    refine ct_aald19 C dX11_position_19 hk5 h.1 ?_
    have hk6 := ct_e19 hk5 (ct_vin h.1)
    have h := h.2
    refine gf_X11_116 C dX11_position_20 hk6 ?_
    refine ct_goto C dX11_position_23 27 (by decide) ?_
    exact ct_ireti C hr hlk dX11_position_27 h
abbrev rm_X11_accumulator : Room := { frames := 1, cells := 0, slots := 0, locals := 21 }
set_option maxHeartbeats 4000000 in
set_option maxRecDepth 100000 in
theorem c_X11_accumulator (l : Launch) (D : va_G) (cy : Nat → ClassId) (o : Nat) {a0 : Nat} {p1 : Int32} {Q : Int32 → ct_M → Prop} {m : ct_M} (ka0 : ct_K 11 a0) (h : wp_X11_accumulator a0 p1 Q m) : Met l yX11_accumulator (ct_ws yX11_accumulator cX11_accumulator 2 (some .int)) rm_X11_accumulator (va_Pc [.ref (o + a0), .int p1] (ct_P D cy o ct_NN m)) (va_Qi Q (ct_P D cy o ct_NN) (fun q => o ≤ q)) 0 0 (fun q => o ≤ q) := by
  refine ct_met l D cy o ct_NN m (by decide) (Nat.le_of_ble_eq_true rfl) (fun p e s mth args below meth c C hr hlk => ?_)
  refine ct_sub [0, 1] [(0, .ref (o + a0)), (1, .int p1)] rfl ?_
  unfold wp_X11_accumulator at h
  refine ct_aload_n C dX11_accumulator_0 0 rfl rfl ?_
  refine gf_X11_43 C dX11_accumulator_1 ka0 ?_
  have hk1 := ct_t11_2 ka0
  refine ct_iload_n C dX11_accumulator_4 1 rfl rfl ?_
  refine ct_callVi (As := [.int p1]) (T := TX10) C (c_X10_hasThread l D cy o hk1 h) kv_X11_104 hk1.1 (ct_E10 hk1) rfl rfl rfl (Nat.le_of_ble_eq_true rfl) ⟨rfl, rfl, Nat.le_of_ble_eq_true rfl, Nat.le_of_ble_eq_true rfl⟩ ⟨Nat.zero_le _, Nat.zero_le _⟩ dX11_accumulator_5 (fun r3 m2 h => ?_)
  refine ct_if_eq C dX11_accumulator_8 29 (by decide) (fun hc4 => ?_) (fun hc4 => ?_)
  · have h := h.1 hc4
    refine ct_iconst C dX11_accumulator_29 (-1 : Int32) (by decide) ?_
    exact ct_ireti C hr hlk dX11_accumulator_30 h
  · have h := h.2 hc4
    refine ct_aload_n C dX11_accumulator_11 0 rfl rfl ?_
    refine gf_X11_43 C dX11_accumulator_12 ka0 ?_
    refine gf_X11_107 C dX11_accumulator_15 hk1 ?_
    have hk5 := ct_t10_2 hk1
    refine ct_iload_n C dX11_accumulator_18 1 rfl rfl ?_
    refine ct_aald19 C dX11_accumulator_19 hk5 h.1 ?_
    have hk6 := ct_e19 hk5 (ct_vin h.1)
    have h := h.2
    refine gf_X11_119 C dX11_accumulator_20 hk6 ?_
    refine ct_bipush C dX11_accumulator_23 (100 : Int32) (by decide) ?_
    refine ct_iadd C dX11_accumulator_25 ?_
    refine ct_goto C dX11_accumulator_26 30 (by decide) ?_
    exact ct_ireti C hr hlk dX11_accumulator_30 h
abbrev rm_X0_holds : Room := { frames := 0, cells := 0, slots := 0, locals := 0 }
set_option maxHeartbeats 4000000 in
set_option maxRecDepth 100000 in
theorem c_X0_holds (l : Launch) (D : va_G) (cy : Nat → ClassId) (o : Nat) {a0 : Nat} {p1 : Int32} {Q : Int32 → ct_M → Prop} {m : ct_M} (ka0 : ct_K 0 a0) (h : wp_X0_holds a0 p1 Q m) : Met l yX0_holds (ct_ws yX0_holds cX0_holds 2 (some .boolean)) rm_X0_holds (va_Pc [.ref (o + a0), .int p1] (ct_P D cy o ct_NN m)) (va_Qi Q (ct_P D cy o ct_NN) (fun q => o ≤ q)) 0 0 (fun q => o ≤ q) := by
  refine ct_met l D cy o ct_NN m (by decide) (Nat.le_of_ble_eq_true rfl) (fun p e s mth args below meth c C hr hlk => ?_)
  refine ct_sub [0, 1] [(0, .ref (o + a0)), (1, .int p1)] rfl ?_
  unfold wp_X0_holds at h
  refine ct_aload_n C dX0_holds_0 0 rfl rfl ?_
  refine gf_X0_15 C dX0_holds_1 ka0 ?_
  refine ct_iload_n C dX0_holds_4 1 rfl rfl ?_
  refine ct_ishr C dX0_holds_5 ?_
  refine ct_iconst C dX0_holds_6 (1 : Int32) (by decide) ?_
  refine ct_iand C dX0_holds_7 ?_
  refine ct_iconst C dX0_holds_8 (1 : Int32) (by decide) ?_
  refine ct_icmp_ne C dX0_holds_9 16 (by decide) (fun hc1 => ?_) (fun hc1 => ?_)
  · have h := h.1 hc1
    refine ct_iconst C dX0_holds_16 (0 : Int32) (by decide) ?_
    exact ct_zret C hr hlk dX0_holds_17 (by decide) h
  · have h := h.2 hc1
    refine ct_iconst C dX0_holds_12 (1 : Int32) (by decide) ?_
    refine ct_goto C dX0_holds_13 17 (by decide) ?_
    exact ct_zret C hr hlk dX0_holds_17 (by decide) h
abbrev rm_X10_valueFor : Room := { frames := 1, cells := 0, slots := 0, locals := 21 }
set_option maxHeartbeats 4000000 in
set_option maxRecDepth 100000 in
theorem c_X10_valueFor (l : Launch) (D : va_G) (cy : Nat → ClassId) (o : Nat) {a0 : Nat} {a1 : Nat} {p2 : Int32} {Q : Int32 → ct_M → Prop} {m : ct_M} (ka0 : ct_K 10 a0) (ka1 : ct_K 9 a1) (h : wp_X10_valueFor a0 a1 p2 Q m) : Met l yX10_valueFor (ct_ws yX10_valueFor cX10_valueFor 3 (some .int)) rm_X10_valueFor (va_Pc [.ref (o + a0), .ref (o + a1), .int p2] (ct_P D cy o ct_NN m)) (va_Qi Q (ct_P D cy o ct_NN) (fun q => o ≤ q)) 0 0 (fun q => o ≤ q) := by
  refine ct_met l D cy o ct_NN m (by decide) (Nat.le_of_ble_eq_true rfl) (fun p e s mth args below meth c C hr hlk => ?_)
  refine ct_sub [0, 1, 2] [(0, .ref (o + a0)), (1, .ref (o + a1)), (2, .int p2)] rfl ?_
  unfold wp_X10_valueFor at h
  refine ct_iload_n C dX10_valueFor_0 2 rfl rfl ?_
  refine ct_callNi (As := [.int p2]) C (c_X11_isCell l D cy o  h) kv_X10_62 rfl rfl (Nat.le_of_ble_eq_true rfl) ⟨rfl, rfl, Nat.le_of_ble_eq_true rfl, Nat.le_of_ble_eq_true rfl⟩ ⟨Nat.zero_le _, Nat.zero_le _⟩ dX10_valueFor_1 (fun r2 m1 h => ?_)
  refine ct_if_ne C dX10_valueFor_4 9 (by decide) (fun hc3 => ?_) (fun hc3 => ?_)
  · have h := h.1 hc3
    refine ct_aload_n C dX10_valueFor_9 1 rfl rfl ?_
    refine gf_X10_66 C dX10_valueFor_10 ka1 ?_
    have hk4 := ct_t9_7 ka1
    refine ct_iload_n C dX10_valueFor_13 2 rfl rfl ?_
    refine ct_callVi (As := [.int p2]) (T := TX0) C (c_X0_holds l D cy o hk4 h) kv_X10_70 hk4.1 (ct_E0 hk4) rfl rfl rfl (Nat.le_of_ble_eq_true rfl) ⟨rfl, rfl, Nat.le_of_ble_eq_true rfl, Nat.le_of_ble_eq_true rfl⟩ ⟨Nat.zero_le _, Nat.zero_le _⟩ dX10_valueFor_14 (fun r6 m5 h => ?_)
    refine ct_if_eq C dX10_valueFor_17 32 (by decide) (fun hc7 => ?_) (fun hc7 => ?_)
    · have h := h.1 hc7
      refine ct_aload_n C dX10_valueFor_32 0 rfl rfl ?_
      refine gf_X10_9 C dX10_valueFor_33 ka0 ?_
      have hk8 := ct_t10_0 ka0
      refine ct_iload_n C dX10_valueFor_36 2 rfl rfl ?_
      refine ct_iald C dX10_valueFor_37 hk8 h.1 ?_
      have h := h.2
      exact ct_ireti C hr hlk dX10_valueFor_38 h
    · have h := h.2 hc7
      refine ct_aload_n C dX10_valueFor_20 1 rfl rfl ?_
      refine gf_X10_66 C dX10_valueFor_21 ka1 ?_
      refine gf_X10_75 C dX10_valueFor_24 hk4 ?_
      have hk9 := ct_t0_1 hk4
      refine ct_iload_n C dX10_valueFor_27 2 rfl rfl ?_
      refine ct_iald C dX10_valueFor_28 hk9 h.1 ?_
      have h := h.2
      refine ct_goto C dX10_valueFor_29 38 (by decide) ?_
      exact ct_ireti C hr hlk dX10_valueFor_38 h
  · have h := h.2 hc3
    refine ct_iconst C dX10_valueFor_7 (0 : Int32) (by decide) ?_
    exact ct_ireti C hr hlk dX10_valueFor_8 h
abbrev rm_X11_seenValue : Room := { frames := 2, cells := 0, slots := 0, locals := 43 }
set_option maxHeartbeats 4000000 in
set_option maxRecDepth 100000 in
theorem c_X11_seenValue (l : Launch) (D : va_G) (cy : Nat → ClassId) (o : Nat) {a0 : Nat} {p1 : Int32} {p2 : Int32} {Q : Int32 → ct_M → Prop} {m : ct_M} (ka0 : ct_K 11 a0) (h : wp_X11_seenValue a0 p1 p2 Q m) : Met l yX11_seenValue (ct_ws yX11_seenValue cX11_seenValue 3 (some .int)) rm_X11_seenValue (va_Pc [.ref (o + a0), .int p1, .int p2] (ct_P D cy o ct_NN m)) (va_Qi Q (ct_P D cy o ct_NN) (fun q => o ≤ q)) 0 0 (fun q => o ≤ q) := by
  refine ct_met l D cy o ct_NN m (by decide) (Nat.le_of_ble_eq_true rfl) (fun p e s mth args below meth c C hr hlk => ?_)
  refine ct_sub [0, 1, 2] [(0, .ref (o + a0)), (1, .int p1), (2, .int p2)] rfl ?_
  unfold wp_X11_seenValue at h
  refine ct_aload_n C dX11_seenValue_0 0 rfl rfl ?_
  refine gf_X11_43 C dX11_seenValue_1 ka0 ?_
  have hk1 := ct_t11_2 ka0
  refine ct_iload_n C dX11_seenValue_4 1 rfl rfl ?_
  refine ct_callVi (As := [.int p1]) (T := TX10) C (c_X10_hasThread l D cy o hk1 h) kv_X11_104 hk1.1 (ct_E10 hk1) rfl rfl rfl (Nat.le_of_ble_eq_true rfl) ⟨rfl, rfl, Nat.le_of_ble_eq_true rfl, Nat.le_of_ble_eq_true rfl⟩ ⟨Nat.zero_le _, Nat.zero_le _⟩ dX11_seenValue_5 (fun r3 m2 h => ?_)
  refine ct_if_eq C dX11_seenValue_8 18 (by decide) (fun hc4 => ?_) (fun hc4 => ?_)
  · have h := h.1 hc4
    refine ct_iconst C dX11_seenValue_18 (-1 : Int32) (by decide) ?_
    exact ct_ireti C hr hlk dX11_seenValue_19 h
  · have h := h.2 hc4
    refine ct_iload_n C dX11_seenValue_11 2 rfl rfl ?_
    refine ct_callSi (As := [.int p2]) C (c_X11_isCell l D cy o  h) kv_X11_93 rfl rfl (Nat.le_of_ble_eq_true rfl) ⟨rfl, rfl, Nat.le_of_ble_eq_true rfl, Nat.le_of_ble_eq_true rfl⟩ ⟨Nat.zero_le _, Nat.zero_le _⟩ dX11_seenValue_12 (fun r6 m5 h => ?_)
    refine ct_if_ne C dX11_seenValue_15 20 (by decide) (fun hc7 => ?_) (fun hc7 => ?_)
    · have h := h.1 hc7
      refine ct_aload_n C dX11_seenValue_20 0 rfl rfl ?_
      refine gf_X11_43 C dX11_seenValue_21 ka0 ?_
      refine ct_aload_n C dX11_seenValue_24 0 rfl rfl ?_
      refine gf_X11_43 C dX11_seenValue_25 ka0 ?_
      refine gf_X11_107 C dX11_seenValue_28 hk1 ?_
      have hk8 := ct_t10_2 hk1
      refine ct_iload_n C dX11_seenValue_31 1 rfl rfl ?_
      refine ct_aald19 C dX11_seenValue_32 hk8 h.1 ?_
      have hk9 := ct_e19 hk8 (ct_vin h.1)
      have h := h.2
      refine ct_iload_n C dX11_seenValue_33 2 rfl rfl ?_
      refine ct_callVi (As := [.ref (o + (((a0 + 26) + 3) + 4 + 15 * p1.toNatClampNeg)), .int p2]) (T := TX10) C (c_X10_valueFor l D cy o hk1 hk9 h) kv_X11_122 hk1.1 (ct_E10 hk1) rfl rfl rfl (Nat.le_of_ble_eq_true rfl) ⟨rfl, rfl, Nat.le_of_ble_eq_true rfl, Nat.le_of_ble_eq_true rfl⟩ ⟨Nat.zero_le _, Nat.zero_le _⟩ dX11_seenValue_34 (fun r11 m10 h => ?_)
      refine ct_bipush C dX11_seenValue_37 (100 : Int32) (by decide) ?_
      refine ct_iadd C dX11_seenValue_39 ?_
      exact ct_ireti C hr hlk dX11_seenValue_40 h
    · have h := h.2 hc7
      refine ct_iconst C dX11_seenValue_18 (-1 : Int32) (by decide) ?_
      exact ct_ireti C hr hlk dX11_seenValue_19 h
abbrev rm_X11_readSet : Room := { frames := 1, cells := 0, slots := 0, locals := 21 }
set_option maxHeartbeats 4000000 in
set_option maxRecDepth 100000 in
theorem c_X11_readSet (l : Launch) (D : va_G) (cy : Nat → ClassId) (o : Nat) {a0 : Nat} {p1 : Int32} {Q : Int32 → ct_M → Prop} {m : ct_M} (ka0 : ct_K 11 a0) (h : wp_X11_readSet a0 p1 Q m) : Met l yX11_readSet (ct_ws yX11_readSet cX11_readSet 2 (some .int)) rm_X11_readSet (va_Pc [.ref (o + a0), .int p1] (ct_P D cy o ct_NN m)) (va_Qi Q (ct_P D cy o ct_NN) (fun q => o ≤ q)) 0 0 (fun q => o ≤ q) := by
  refine ct_met l D cy o ct_NN m (by decide) (Nat.le_of_ble_eq_true rfl) (fun p e s mth args below meth c C hr hlk => ?_)
  refine ct_sub [0, 1] [(0, .ref (o + a0)), (1, .int p1)] rfl ?_
  unfold wp_X11_readSet at h
  refine ct_aload_n C dX11_readSet_0 0 rfl rfl ?_
  refine gf_X11_43 C dX11_readSet_1 ka0 ?_
  have hk1 := ct_t11_2 ka0
  refine ct_iload_n C dX11_readSet_4 1 rfl rfl ?_
  refine ct_callVi (As := [.int p1]) (T := TX10) C (c_X10_hasThread l D cy o hk1 h) kv_X11_104 hk1.1 (ct_E10 hk1) rfl rfl rfl (Nat.le_of_ble_eq_true rfl) ⟨rfl, rfl, Nat.le_of_ble_eq_true rfl, Nat.le_of_ble_eq_true rfl⟩ ⟨Nat.zero_le _, Nat.zero_le _⟩ dX11_readSet_5 (fun r3 m2 h => ?_)
  refine ct_if_eq C dX11_readSet_8 29 (by decide) (fun hc4 => ?_) (fun hc4 => ?_)
  · have h := h.1 hc4
    refine ct_iconst C dX11_readSet_29 (-1 : Int32) (by decide) ?_
    exact ct_ireti C hr hlk dX11_readSet_30 h
  · have h := h.2 hc4
    refine ct_aload_n C dX11_readSet_11 0 rfl rfl ?_
    refine gf_X11_43 C dX11_readSet_12 ka0 ?_
    refine gf_X11_107 C dX11_readSet_15 hk1 ?_
    have hk5 := ct_t10_2 hk1
    refine ct_iload_n C dX11_readSet_18 1 rfl rfl ?_
    refine ct_aald19 C dX11_readSet_19 hk5 h.1 ?_
    have hk6 := ct_e19 hk5 (ct_vin h.1)
    have h := h.2
    refine gf_X11_126 C dX11_readSet_20 hk6 ?_
    have hk7 := ct_t9_6 hk6
    refine gf_X11_130 C dX11_readSet_23 hk7 ?_
    refine ct_goto C dX11_readSet_26 30 (by decide) ?_
    exact ct_ireti C hr hlk dX11_readSet_30 h
abbrev rm_X11_writeSet : Room := { frames := 1, cells := 0, slots := 0, locals := 21 }
set_option maxHeartbeats 4000000 in
set_option maxRecDepth 100000 in
theorem c_X11_writeSet (l : Launch) (D : va_G) (cy : Nat → ClassId) (o : Nat) {a0 : Nat} {p1 : Int32} {Q : Int32 → ct_M → Prop} {m : ct_M} (ka0 : ct_K 11 a0) (h : wp_X11_writeSet a0 p1 Q m) : Met l yX11_writeSet (ct_ws yX11_writeSet cX11_writeSet 2 (some .int)) rm_X11_writeSet (va_Pc [.ref (o + a0), .int p1] (ct_P D cy o ct_NN m)) (va_Qi Q (ct_P D cy o ct_NN) (fun q => o ≤ q)) 0 0 (fun q => o ≤ q) := by
  refine ct_met l D cy o ct_NN m (by decide) (Nat.le_of_ble_eq_true rfl) (fun p e s mth args below meth c C hr hlk => ?_)
  refine ct_sub [0, 1] [(0, .ref (o + a0)), (1, .int p1)] rfl ?_
  unfold wp_X11_writeSet at h
  refine ct_aload_n C dX11_writeSet_0 0 rfl rfl ?_
  refine gf_X11_43 C dX11_writeSet_1 ka0 ?_
  have hk1 := ct_t11_2 ka0
  refine ct_iload_n C dX11_writeSet_4 1 rfl rfl ?_
  refine ct_callVi (As := [.int p1]) (T := TX10) C (c_X10_hasThread l D cy o hk1 h) kv_X11_104 hk1.1 (ct_E10 hk1) rfl rfl rfl (Nat.le_of_ble_eq_true rfl) ⟨rfl, rfl, Nat.le_of_ble_eq_true rfl, Nat.le_of_ble_eq_true rfl⟩ ⟨Nat.zero_le _, Nat.zero_le _⟩ dX11_writeSet_5 (fun r3 m2 h => ?_)
  refine ct_if_eq C dX11_writeSet_8 29 (by decide) (fun hc4 => ?_) (fun hc4 => ?_)
  · have h := h.1 hc4
    refine ct_iconst C dX11_writeSet_29 (-1 : Int32) (by decide) ?_
    exact ct_ireti C hr hlk dX11_writeSet_30 h
  · have h := h.2 hc4
    refine ct_aload_n C dX11_writeSet_11 0 rfl rfl ?_
    refine gf_X11_43 C dX11_writeSet_12 ka0 ?_
    refine gf_X11_107 C dX11_writeSet_15 hk1 ?_
    have hk5 := ct_t10_2 hk1
    refine ct_iload_n C dX11_writeSet_18 1 rfl rfl ?_
    refine ct_aald19 C dX11_writeSet_19 hk5 h.1 ?_
    have hk6 := ct_e19 hk5 (ct_vin h.1)
    have h := h.2
    refine gf_X11_135 C dX11_writeSet_20 hk6 ?_
    have hk7 := ct_t9_7 hk6
    refine gf_X11_130 C dX11_writeSet_23 hk7 ?_
    refine ct_goto C dX11_writeSet_26 30 (by decide) ?_
    exact ct_ireti C hr hlk dX11_writeSet_30 h
abbrev rm_X11_openBlocks : Room := { frames := 1, cells := 0, slots := 0, locals := 21 }
set_option maxHeartbeats 4000000 in
set_option maxRecDepth 100000 in
theorem c_X11_openBlocks (l : Launch) (D : va_G) (cy : Nat → ClassId) (o : Nat) {a0 : Nat} {p1 : Int32} {Q : Int32 → ct_M → Prop} {m : ct_M} (ka0 : ct_K 11 a0) (h : wp_X11_openBlocks a0 p1 Q m) : Met l yX11_openBlocks (ct_ws yX11_openBlocks cX11_openBlocks 2 (some .int)) rm_X11_openBlocks (va_Pc [.ref (o + a0), .int p1] (ct_P D cy o ct_NN m)) (va_Qi Q (ct_P D cy o ct_NN) (fun q => o ≤ q)) 0 0 (fun q => o ≤ q) := by
  refine ct_met l D cy o ct_NN m (by decide) (Nat.le_of_ble_eq_true rfl) (fun p e s mth args below meth c C hr hlk => ?_)
  refine ct_sub [0, 1] [(0, .ref (o + a0)), (1, .int p1)] rfl ?_
  unfold wp_X11_openBlocks at h
  refine ct_aload_n C dX11_openBlocks_0 0 rfl rfl ?_
  refine gf_X11_43 C dX11_openBlocks_1 ka0 ?_
  have hk1 := ct_t11_2 ka0
  refine ct_iload_n C dX11_openBlocks_4 1 rfl rfl ?_
  refine ct_callVi (As := [.int p1]) (T := TX10) C (c_X10_hasThread l D cy o hk1 h) kv_X11_104 hk1.1 (ct_E10 hk1) rfl rfl rfl (Nat.le_of_ble_eq_true rfl) ⟨rfl, rfl, Nat.le_of_ble_eq_true rfl, Nat.le_of_ble_eq_true rfl⟩ ⟨Nat.zero_le _, Nat.zero_le _⟩ dX11_openBlocks_5 (fun r3 m2 h => ?_)
  refine ct_if_eq C dX11_openBlocks_8 26 (by decide) (fun hc4 => ?_) (fun hc4 => ?_)
  · have h := h.1 hc4
    refine ct_iconst C dX11_openBlocks_26 (-1 : Int32) (by decide) ?_
    exact ct_ireti C hr hlk dX11_openBlocks_27 h
  · have h := h.2 hc4
    refine ct_aload_n C dX11_openBlocks_11 0 rfl rfl ?_
    refine gf_X11_43 C dX11_openBlocks_12 ka0 ?_
    refine gf_X11_107 C dX11_openBlocks_15 hk1 ?_
    have hk5 := ct_t10_2 hk1
    refine ct_iload_n C dX11_openBlocks_18 1 rfl rfl ?_
    refine ct_aald19 C dX11_openBlocks_19 hk5 h.1 ?_
    have hk6 := ct_e19 hk5 (ct_vin h.1)
    have h := h.2
    refine gf_X11_138 C dX11_openBlocks_20 hk6 ?_
    refine ct_goto C dX11_openBlocks_23 27 (by decide) ?_
    exact ct_ireti C hr hlk dX11_openBlocks_27 h
abbrev rm_X11_runsLeft : Room := { frames := 1, cells := 0, slots := 0, locals := 21 }
set_option maxHeartbeats 4000000 in
set_option maxRecDepth 100000 in
theorem c_X11_runsLeft (l : Launch) (D : va_G) (cy : Nat → ClassId) (o : Nat) {a0 : Nat} {p1 : Int32} {Q : Int32 → ct_M → Prop} {m : ct_M} (ka0 : ct_K 11 a0) (h : wp_X11_runsLeft a0 p1 Q m) : Met l yX11_runsLeft (ct_ws yX11_runsLeft cX11_runsLeft 2 (some .int)) rm_X11_runsLeft (va_Pc [.ref (o + a0), .int p1] (ct_P D cy o ct_NN m)) (va_Qi Q (ct_P D cy o ct_NN) (fun q => o ≤ q)) 0 0 (fun q => o ≤ q) := by
  refine ct_met l D cy o ct_NN m (by decide) (Nat.le_of_ble_eq_true rfl) (fun p e s mth args below meth c C hr hlk => ?_)
  refine ct_sub [0, 1] [(0, .ref (o + a0)), (1, .int p1)] rfl ?_
  unfold wp_X11_runsLeft at h
  refine ct_aload_n C dX11_runsLeft_0 0 rfl rfl ?_
  refine gf_X11_43 C dX11_runsLeft_1 ka0 ?_
  have hk1 := ct_t11_2 ka0
  refine ct_iload_n C dX11_runsLeft_4 1 rfl rfl ?_
  refine ct_callVi (As := [.int p1]) (T := TX10) C (c_X10_hasThread l D cy o hk1 h) kv_X11_104 hk1.1 (ct_E10 hk1) rfl rfl rfl (Nat.le_of_ble_eq_true rfl) ⟨rfl, rfl, Nat.le_of_ble_eq_true rfl, Nat.le_of_ble_eq_true rfl⟩ ⟨Nat.zero_le _, Nat.zero_le _⟩ dX11_runsLeft_5 (fun r3 m2 h => ?_)
  refine ct_if_eq C dX11_runsLeft_8 26 (by decide) (fun hc4 => ?_) (fun hc4 => ?_)
  · have h := h.1 hc4
    refine ct_iconst C dX11_runsLeft_26 (-1 : Int32) (by decide) ?_
    exact ct_ireti C hr hlk dX11_runsLeft_27 h
  · have h := h.2 hc4
    refine ct_aload_n C dX11_runsLeft_11 0 rfl rfl ?_
    refine gf_X11_43 C dX11_runsLeft_12 ka0 ?_
    refine gf_X11_107 C dX11_runsLeft_15 hk1 ?_
    have hk5 := ct_t10_2 hk1
    refine ct_iload_n C dX11_runsLeft_18 1 rfl rfl ?_
    refine ct_aald19 C dX11_runsLeft_19 hk5 h.1 ?_
    have hk6 := ct_e19 hk5 (ct_vin h.1)
    have h := h.2
    refine gf_X11_141 C dX11_runsLeft_20 hk6 ?_
    refine ct_goto C dX11_runsLeft_23 27 (by decide) ?_
    exact ct_ireti C hr hlk dX11_runsLeft_27 h
abbrev rm_X11_restarts : Room := { frames := 1, cells := 0, slots := 0, locals := 21 }
set_option maxHeartbeats 4000000 in
set_option maxRecDepth 100000 in
theorem c_X11_restarts (l : Launch) (D : va_G) (cy : Nat → ClassId) (o : Nat) {a0 : Nat} {p1 : Int32} {Q : Int32 → ct_M → Prop} {m : ct_M} (ka0 : ct_K 11 a0) (h : wp_X11_restarts a0 p1 Q m) : Met l yX11_restarts (ct_ws yX11_restarts cX11_restarts 2 (some .int)) rm_X11_restarts (va_Pc [.ref (o + a0), .int p1] (ct_P D cy o ct_NN m)) (va_Qi Q (ct_P D cy o ct_NN) (fun q => o ≤ q)) 0 0 (fun q => o ≤ q) := by
  refine ct_met l D cy o ct_NN m (by decide) (Nat.le_of_ble_eq_true rfl) (fun p e s mth args below meth c C hr hlk => ?_)
  refine ct_sub [0, 1] [(0, .ref (o + a0)), (1, .int p1)] rfl ?_
  unfold wp_X11_restarts at h
  refine ct_aload_n C dX11_restarts_0 0 rfl rfl ?_
  refine gf_X11_43 C dX11_restarts_1 ka0 ?_
  have hk1 := ct_t11_2 ka0
  refine ct_iload_n C dX11_restarts_4 1 rfl rfl ?_
  refine ct_callVi (As := [.int p1]) (T := TX10) C (c_X10_hasThread l D cy o hk1 h) kv_X11_104 hk1.1 (ct_E10 hk1) rfl rfl rfl (Nat.le_of_ble_eq_true rfl) ⟨rfl, rfl, Nat.le_of_ble_eq_true rfl, Nat.le_of_ble_eq_true rfl⟩ ⟨Nat.zero_le _, Nat.zero_le _⟩ dX11_restarts_5 (fun r3 m2 h => ?_)
  refine ct_if_eq C dX11_restarts_8 26 (by decide) (fun hc4 => ?_) (fun hc4 => ?_)
  · have h := h.1 hc4
    refine ct_iconst C dX11_restarts_26 (-1 : Int32) (by decide) ?_
    exact ct_ireti C hr hlk dX11_restarts_27 h
  · have h := h.2 hc4
    refine ct_aload_n C dX11_restarts_11 0 rfl rfl ?_
    refine gf_X11_43 C dX11_restarts_12 ka0 ?_
    refine gf_X11_107 C dX11_restarts_15 hk1 ?_
    have hk5 := ct_t10_2 hk1
    refine ct_iload_n C dX11_restarts_18 1 rfl rfl ?_
    refine ct_aald19 C dX11_restarts_19 hk5 h.1 ?_
    have hk6 := ct_e19 hk5 (ct_vin h.1)
    have h := h.2
    refine gf_X11_144 C dX11_restarts_20 hk6 ?_
    refine ct_goto C dX11_restarts_23 27 (by decide) ?_
    exact ct_ireti C hr hlk dX11_restarts_27 h
abbrev rm_X0_copyFrom : Room := { frames := 0, cells := 0, slots := 0, locals := 0 }
set_option maxHeartbeats 4000000 in
set_option maxRecDepth 100000 in
theorem kb_X0_copyFrom_10 {p : Program} {l : Launch} {e : Env} {s : State} {mth : MethodId} {args : Array Value} {below : List Frame} {meth : Method} {c : Code} {D : va_G} {cy : Nat → ClassId} {o : Nat} {Q : ct_M → Prop} (C : ct_Cx p s mth c cX0_copyFrom 3 args RX0 D cy) (hr : meth.sig.returnType = none) (hlk : meth.locks = false) : ∀ (n : Nat) (v0 : Nat) (v1 : Nat) (v2 : Int32) (m : ct_M) (kv0 : ct_K 0 v0) (kv1 : ct_K 0 v1), wb_X0_copyFrom_10 Q n v0 v1 v2 m → ct_J p l e rm_X0_copyFrom s mth args below meth c 3 D cy o ct_NN 0 0 (MQ below (va_Qv Q (ct_P D cy o ct_NN) (fun q => o ≤ q)) args s 0 0 (fun q => o ≤ q)) m 10 [(0, .ref (o + v0)), (1, .ref (o + v1)), (2, .int v2)] [] := by
  intro n
  induction n with
  | zero => intro v0 v1 v2 m kv0 kv1 h; exact h.elim
  | succ n ih =>
    intro v0 v1 v2 m kv0 kv1 h
    unfold wb_X0_copyFrom_10 at h
    refine ct_iload_n C dX0_copyFrom_10 2 rfl rfl ?_
    refine ct_bipush C dX0_copyFrom_11 (6 : Int32) (by decide) ?_
    refine ct_icmp_ge C dX0_copyFrom_13 34 (by decide) (fun hc1 => ?_) (fun hc1 => ?_)
    · have h := h.1 hc1
      exact ct_vret C hr hlk dX0_copyFrom_34 h
    · have h := h.2 hc1
      refine ct_aload_n C dX0_copyFrom_16 0 rfl rfl ?_
      refine gf_X0_9 C dX0_copyFrom_17 kv0 ?_
      have hk2 := ct_t0_1 kv0
      refine ct_iload_n C dX0_copyFrom_20 2 rfl rfl ?_
      refine ct_aload_n C dX0_copyFrom_21 1 rfl rfl ?_
      refine gf_X0_9 C dX0_copyFrom_22 kv1 ?_
      have hk3 := ct_t0_1 kv1
      refine ct_iload_n C dX0_copyFrom_25 2 rfl rfl ?_
      refine ct_iald C dX0_copyFrom_26 hk3 h.1 ?_
      have h := h.2
      refine ct_iast C dX0_copyFrom_27 hk2 h.1 ?_
      have h := h.2
      refine ct_mem (fun m4 em4 => ?_)
      have h := h m4 em4
      obtain ⟨x5, ex5⟩ : ∃ z : Int32, z = v2 + (1 : Int32) := ⟨_, rfl⟩
      have h := h x5 ex5
      refine ct_iinc (k := 2) (v := x5) C dX0_copyFrom_28 [(2, .int x5), (0, .ref (o + v0)), (1, .ref (o + v1))] rfl (by rw [ex5]; rfl) (by decide) rfl ?_
      refine ct_goto C dX0_copyFrom_31 10 (by decide) ?_
      refine ct_sub [1, 2, 0] [(0, .ref (o + v0)), (1, .ref (o + v1)), (2, .int x5)] rfl ?_
      exact ih _ _ _ _ kv0 kv1 h
set_option maxHeartbeats 4000000 in
set_option maxRecDepth 100000 in
theorem c_X0_copyFrom (l : Launch) (D : va_G) (cy : Nat → ClassId) (o : Nat) {a0 : Nat} {a1 : Nat} {Q : ct_M → Prop} {m : ct_M} (ka0 : ct_K 0 a0) (ka1 : ct_K 0 a1) (h : wp_X0_copyFrom a0 a1 Q m) : Met l yX0_copyFrom (ct_ws yX0_copyFrom cX0_copyFrom 3 none) rm_X0_copyFrom (va_Pc [.ref (o + a0), .ref (o + a1)] (ct_P D cy o ct_NN m)) (va_Qv Q (ct_P D cy o ct_NN) (fun q => o ≤ q)) 0 0 (fun q => o ≤ q) := by
  refine ct_met l D cy o ct_NN m (by decide) (Nat.le_of_ble_eq_true rfl) (fun p e s mth args below meth c C hr hlk => ?_)
  refine ct_sub [0, 1] [(0, .ref (o + a0)), (1, .ref (o + a1))] rfl ?_
  unfold wp_X0_copyFrom at h
  refine ct_aload_n C dX0_copyFrom_0 0 rfl rfl ?_
  refine ct_aload_n C dX0_copyFrom_1 1 rfl rfl ?_
  refine gf_X0_15 C dX0_copyFrom_2 ka1 ?_
  refine pf_X0_15 C dX0_copyFrom_5 ka0 ?_
  refine ct_mem (fun m1 em1 => ?_)
  have h := h m1 em1
  refine ct_iconst C dX0_copyFrom_8 (0 : Int32) (by decide) ?_
  refine ct_istore_n C dX0_copyFrom_9 [(2, .int (0 : Int32)), (0, .ref (o + a0)), (1, .ref (o + a1))] rfl (by decide) rfl ?_
  refine ct_sub [1, 2, 0] [(0, .ref (o + a0)), (1, .ref (o + a1)), (2, .int (0 : Int32))] rfl ?_
  obtain ⟨n2, h⟩ := h
  exact kb_X0_copyFrom_10 C hr hlk  n2 _ _ _ _ ka0 ka1 h
abbrev rm_X4_copyFrom : Room := { frames := 1, cells := 0, slots := 0, locals := 22 }
set_option maxHeartbeats 4000000 in
set_option maxRecDepth 100000 in
theorem c_X4_copyFrom (l : Launch) (D : va_G) (cy : Nat → ClassId) (o : Nat) {a0 : Nat} {a1 : Nat} {Q : ct_M → Prop} {m : ct_M} (ka0 : ct_K 4 a0) (ka1 : ct_K 4 a1) (h : wp_X4_copyFrom a0 a1 Q m) : Met l yX4_copyFrom (ct_ws yX4_copyFrom cX4_copyFrom 2 none) rm_X4_copyFrom (va_Pc [.ref (o + a0), .ref (o + a1)] (ct_P D cy o ct_NN m)) (va_Qv Q (ct_P D cy o ct_NN) (fun q => o ≤ q)) 0 0 (fun q => o ≤ q) := by
  refine ct_met l D cy o ct_NN m (by decide) (Nat.le_of_ble_eq_true rfl) (fun p e s mth args below meth c C hr hlk => ?_)
  refine ct_sub [0, 1] [(0, .ref (o + a0)), (1, .ref (o + a1))] rfl ?_
  unfold wp_X4_copyFrom at h
  refine ct_aload_n C dX4_copyFrom_0 0 rfl rfl ?_
  refine ct_aload_n C dX4_copyFrom_1 1 rfl rfl ?_
  refine gf_X4_16 C dX4_copyFrom_2 ka1 ?_
  refine pf_X4_16 C dX4_copyFrom_5 ka0 h.1 ?_
  have h := h.2
  refine ct_mem (fun m1 em1 => ?_)
  have h := h m1 em1
  refine ct_aload_n C dX4_copyFrom_8 0 rfl rfl ?_
  refine ct_aload_n C dX4_copyFrom_9 1 rfl rfl ?_
  refine gf_X4_20 C dX4_copyFrom_10 ka1 ?_
  refine pf_X4_20 C dX4_copyFrom_13 ka0 h.1 ?_
  have h := h.2
  refine ct_mem (fun m2 em2 => ?_)
  have h := h m2 em2
  refine ct_aload_n C dX4_copyFrom_16 0 rfl rfl ?_
  refine ct_aload_n C dX4_copyFrom_17 1 rfl rfl ?_
  refine gf_X4_24 C dX4_copyFrom_18 ka1 ?_
  refine pf_X4_24 C dX4_copyFrom_21 ka0 ?_
  refine ct_mem (fun m3 em3 => ?_)
  have h := h m3 em3
  refine ct_aload_n C dX4_copyFrom_24 0 rfl rfl ?_
  refine ct_aload_n C dX4_copyFrom_25 1 rfl rfl ?_
  refine gf_X4_28 C dX4_copyFrom_26 ka1 ?_
  refine pf_X4_28 C dX4_copyFrom_29 ka0 ?_
  refine ct_mem (fun m4 em4 => ?_)
  have h := h m4 em4
  refine ct_aload_n C dX4_copyFrom_32 0 rfl rfl ?_
  refine gf_X4_10 C dX4_copyFrom_33 ka0 ?_
  have hk5 := ct_t4_4 ka0
  refine ct_aload_n C dX4_copyFrom_36 1 rfl rfl ?_
  refine gf_X4_10 C dX4_copyFrom_37 ka1 ?_
  have hk6 := ct_t4_4 ka1
  refine ct_callVv (As := [.ref (o + (a1 + 1))]) (T := TX0) C (c_X0_copyFrom l D cy o hk5 hk6 h) kv_X4_31 hk5.1 (ct_E0 hk5) rfl rfl rfl (Nat.le_of_ble_eq_true rfl) ⟨rfl, rfl, Nat.le_of_ble_eq_true rfl, Nat.le_of_ble_eq_true rfl⟩ ⟨Nat.zero_le _, Nat.zero_le _⟩ dX4_copyFrom_40 (fun m7 h => ?_)
  exact ct_vret C hr hlk dX4_copyFrom_43 h
abbrev rm_X9_copyFrom : Room := { frames := 2, cells := 0, slots := 0, locals := 43 }
set_option maxHeartbeats 4000000 in
set_option maxRecDepth 100000 in
theorem kb_X9_copyFrom_72 {p : Program} {l : Launch} {e : Env} {s : State} {mth : MethodId} {args : Array Value} {below : List Frame} {meth : Method} {c : Code} {D : va_G} {cy : Nat → ClassId} {o : Nat} {Q : ct_M → Prop} (C : ct_Cx p s mth c cX9_copyFrom 3 args RX9 D cy) (hr : meth.sig.returnType = none) (hlk : meth.locks = false) : ∀ (n : Nat) (v0 : Nat) (v1 : Nat) (v2 : Int32) (m : ct_M) (kv0 : ct_K 9 v0) (kv1 : ct_K 9 v1), wb_X9_copyFrom_72 Q n v0 v1 v2 m → ct_J p l e rm_X9_copyFrom s mth args below meth c 3 D cy o ct_NN 0 0 (MQ below (va_Qv Q (ct_P D cy o ct_NN) (fun q => o ≤ q)) args s 0 0 (fun q => o ≤ q)) m 72 [(0, .ref (o + v0)), (1, .ref (o + v1)), (2, .int v2)] [] := by
  intro n
  induction n with
  | zero => intro v0 v1 v2 m kv0 kv1 h; exact h.elim
  | succ n ih =>
    intro v0 v1 v2 m kv0 kv1 h
    unfold wb_X9_copyFrom_72 at h
    refine ct_iload_n C dX9_copyFrom_72 2 rfl rfl ?_
    refine ct_iconst C dX9_copyFrom_73 (3 : Int32) (by decide) ?_
    refine ct_icmp_ge C dX9_copyFrom_74 98 (by decide) (fun hc1 => ?_) (fun hc1 => ?_)
    · have h := h.1 hc1
      exact ct_vret C hr hlk dX9_copyFrom_98 h
    · have h := h.2 hc1
      refine ct_aload_n C dX9_copyFrom_77 0 rfl rfl ?_
      refine gf_X9_23 C dX9_copyFrom_78 kv0 ?_
      have hk2 := ct_t9_8 kv0
      refine ct_iload_n C dX9_copyFrom_81 2 rfl rfl ?_
      refine ct_aald17 C dX9_copyFrom_82 hk2 h.1 ?_
      have hk3 := ct_e17 hk2 (ct_vin h.1)
      have h := h.2
      refine ct_aload_n C dX9_copyFrom_83 1 rfl rfl ?_
      refine gf_X9_23 C dX9_copyFrom_84 kv1 ?_
      have hk4 := ct_t9_8 kv1
      refine ct_iload_n C dX9_copyFrom_87 2 rfl rfl ?_
      refine ct_aald17 C dX9_copyFrom_88 hk4 h.1 ?_
      have hk5 := ct_e17 hk4 (ct_vin h.1)
      have h := h.2
      refine ct_callVv (As := [.ref (o + ((v1 + 5) + 1 + 3 * v2.toNatClampNeg))]) (T := TX4) C (c_X4_copyFrom l D cy o hk3 hk5 h) kv_X9_90 hk3.1 (ct_E4 hk3) rfl rfl rfl (Nat.le_of_ble_eq_true rfl) ⟨rfl, rfl, Nat.le_of_ble_eq_true rfl, Nat.le_of_ble_eq_true rfl⟩ ⟨Nat.zero_le _, Nat.zero_le _⟩ dX9_copyFrom_89 (fun m6 h => ?_)
      obtain ⟨x7, ex7⟩ : ∃ z : Int32, z = v2 + (1 : Int32) := ⟨_, rfl⟩
      have h := h x7 ex7
      refine ct_iinc (k := 2) (v := x7) C dX9_copyFrom_92 [(2, .int x7), (0, .ref (o + v0)), (1, .ref (o + v1))] rfl (by rw [ex7]; rfl) (by decide) rfl ?_
      refine ct_goto C dX9_copyFrom_95 72 (by decide) ?_
      refine ct_sub [1, 2, 0] [(0, .ref (o + v0)), (1, .ref (o + v1)), (2, .int x7)] rfl ?_
      exact ih _ _ _ _ kv0 kv1 h
set_option maxHeartbeats 4000000 in
set_option maxRecDepth 100000 in
theorem c_X9_copyFrom (l : Launch) (D : va_G) (cy : Nat → ClassId) (o : Nat) {a0 : Nat} {a1 : Nat} {Q : ct_M → Prop} {m : ct_M} (ka0 : ct_K 9 a0) (ka1 : ct_K 9 a1) (h : wp_X9_copyFrom a0 a1 Q m) : Met l yX9_copyFrom (ct_ws yX9_copyFrom cX9_copyFrom 3 none) rm_X9_copyFrom (va_Pc [.ref (o + a0), .ref (o + a1)] (ct_P D cy o ct_NN m)) (va_Qv Q (ct_P D cy o ct_NN) (fun q => o ≤ q)) 0 0 (fun q => o ≤ q) := by
  refine ct_met l D cy o ct_NN m (by decide) (Nat.le_of_ble_eq_true rfl) (fun p e s mth args below meth c C hr hlk => ?_)
  refine ct_sub [0, 1] [(0, .ref (o + a0)), (1, .ref (o + a1))] rfl ?_
  unfold wp_X9_copyFrom at h
  refine ct_aload_n C dX9_copyFrom_0 0 rfl rfl ?_
  refine ct_aload_n C dX9_copyFrom_1 1 rfl rfl ?_
  refine gf_X9_32 C dX9_copyFrom_2 ka1 ?_
  refine pf_X9_32 C dX9_copyFrom_5 ka0 ?_
  refine ct_mem (fun m1 em1 => ?_)
  have h := h m1 em1
  refine ct_aload_n C dX9_copyFrom_8 0 rfl rfl ?_
  refine ct_aload_n C dX9_copyFrom_9 1 rfl rfl ?_
  refine gf_X9_87 C dX9_copyFrom_10 ka1 ?_
  refine pf_X9_87 C dX9_copyFrom_13 ka0 ?_
  refine ct_mem (fun m2 em2 => ?_)
  have h := h m2 em2
  refine ct_aload_n C dX9_copyFrom_16 0 rfl rfl ?_
  refine ct_aload_n C dX9_copyFrom_17 1 rfl rfl ?_
  refine gf_X9_48 C dX9_copyFrom_18 ka1 ?_
  refine pf_X9_48 C dX9_copyFrom_21 ka0 ?_
  refine ct_mem (fun m3 em3 => ?_)
  have h := h m3 em3
  refine ct_aload_n C dX9_copyFrom_24 0 rfl rfl ?_
  refine ct_aload_n C dX9_copyFrom_25 1 rfl rfl ?_
  refine gf_X9_36 C dX9_copyFrom_26 ka1 ?_
  refine pf_X9_36 C dX9_copyFrom_29 ka0 ?_
  refine ct_mem (fun m4 em4 => ?_)
  have h := h m4 em4
  refine ct_aload_n C dX9_copyFrom_32 0 rfl rfl ?_
  refine ct_aload_n C dX9_copyFrom_33 1 rfl rfl ?_
  refine gf_X9_39 C dX9_copyFrom_34 ka1 ?_
  refine pf_X9_39 C dX9_copyFrom_37 ka0 ?_
  refine ct_mem (fun m5 em5 => ?_)
  have h := h m5 em5
  refine ct_aload_n C dX9_copyFrom_40 0 rfl rfl ?_
  refine gf_X9_12 C dX9_copyFrom_41 ka0 ?_
  have hk6 := ct_t9_6 ka0
  refine ct_aload_n C dX9_copyFrom_44 1 rfl rfl ?_
  refine gf_X9_12 C dX9_copyFrom_45 ka1 ?_
  have hk7 := ct_t9_6 ka1
  refine ct_callVv (As := [.ref (o + (a1 + 1))]) (T := TX0) C (c_X0_copyFrom l D cy o hk6 hk7 h) kv_X9_74 hk6.1 (ct_E0 hk6) rfl rfl rfl (Nat.le_of_ble_eq_true rfl) ⟨rfl, rfl, Nat.le_of_ble_eq_true rfl, Nat.le_of_ble_eq_true rfl⟩ ⟨Nat.zero_le _, Nat.zero_le _⟩ dX9_copyFrom_48 (fun m8 h => ?_)
  refine ct_aload_n C dX9_copyFrom_51 0 rfl rfl ?_
  refine gf_X9_18 C dX9_copyFrom_52 ka0 ?_
  have hk9 := ct_t9_7 ka0
  refine ct_aload_n C dX9_copyFrom_55 1 rfl rfl ?_
  refine gf_X9_18 C dX9_copyFrom_56 ka1 ?_
  have hk10 := ct_t9_7 ka1
  refine ct_callVv (As := [.ref (o + (a1 + 3))]) (T := TX0) C (c_X0_copyFrom l D cy o hk9 hk10 h) kv_X9_74 hk9.1 (ct_E0 hk9) rfl rfl rfl (Nat.le_of_ble_eq_true rfl) ⟨rfl, rfl, Nat.le_of_ble_eq_true rfl, Nat.le_of_ble_eq_true rfl⟩ ⟨Nat.zero_le _, Nat.zero_le _⟩ dX9_copyFrom_59 (fun m11 h => ?_)
  refine ct_aload_n C dX9_copyFrom_62 0 rfl rfl ?_
  refine ct_aload_n C dX9_copyFrom_63 1 rfl rfl ?_
  refine gf_X9_45 C dX9_copyFrom_64 ka1 ?_
  refine pf_X9_45 C dX9_copyFrom_67 ka0 ?_
  refine ct_mem (fun m12 em12 => ?_)
  have h := h m12 em12
  refine ct_iconst C dX9_copyFrom_70 (0 : Int32) (by decide) ?_
  refine ct_istore_n C dX9_copyFrom_71 [(2, .int (0 : Int32)), (0, .ref (o + a0)), (1, .ref (o + a1))] rfl (by decide) rfl ?_
  refine ct_sub [1, 2, 0] [(0, .ref (o + a0)), (1, .ref (o + a1)), (2, .int (0 : Int32))] rfl ?_
  obtain ⟨n13, h⟩ := h
  exact kb_X9_copyFrom_72 C hr hlk  n13 _ _ _ _ ka0 ka1 h
abbrev rm_X10_copyFrom : Room := { frames := 3, cells := 0, slots := 0, locals := 65 }
set_option maxHeartbeats 4000000 in
set_option maxRecDepth 100000 in
theorem kb_X10_copyFrom_40 {p : Program} {l : Launch} {e : Env} {s : State} {mth : MethodId} {args : Array Value} {below : List Frame} {meth : Method} {c : Code} {D : va_G} {cy : Nat → ClassId} {o : Nat} {Q : ct_M → Prop} (C : ct_Cx p s mth c cX10_copyFrom 3 args RX10 D cy) (hr : meth.sig.returnType = none) (hlk : meth.locks = false) : ∀ (n : Nat) (v0 : Nat) (v1 : Nat) (v2 : Int32) (m : ct_M) (kv0 : ct_K 10 v0) (kv1 : ct_K 10 v1), wb_X10_copyFrom_40 Q n v0 v1 v2 m → ct_J p l e rm_X10_copyFrom s mth args below meth c 3 D cy o ct_NN 0 0 (MQ below (va_Qv Q (ct_P D cy o ct_NN) (fun q => o ≤ q)) args s 0 0 (fun q => o ≤ q)) m 40 [(0, .ref (o + v0)), (1, .ref (o + v1)), (2, .int v2)] [] := by
  intro n
  induction n with
  | zero => intro v0 v1 v2 m kv0 kv1 h; exact h.elim
  | succ n ih =>
    intro v0 v1 v2 m kv0 kv1 h
    unfold wb_X10_copyFrom_40 at h
    refine ct_iload_n C dX10_copyFrom_40 2 rfl rfl ?_
    refine ct_iconst C dX10_copyFrom_41 (3 : Int32) (by decide) ?_
    refine ct_icmp_ge C dX10_copyFrom_42 66 (by decide) (fun hc1 => ?_) (fun hc1 => ?_)
    · have h := h.1 hc1
      refine ct_aload_n C dX10_copyFrom_66 1 rfl rfl ?_
      refine gf_X10_24 C dX10_copyFrom_67 kv1 ?_
      have hk2 := ct_t10_4 kv1
      refine ct_iconst C dX10_copyFrom_70 (0 : Int32) (by decide) ?_
      refine ct_aload_n C dX10_copyFrom_71 0 rfl rfl ?_
      refine gf_X10_24 C dX10_copyFrom_72 kv0 ?_
      have hk3 := ct_t10_4 kv0
      refine ct_iconst C dX10_copyFrom_75 (0 : Int32) (by decide) ?_
      refine ct_iconst C dX10_copyFrom_76 (4 : Int32) (by decide) ?_
      refine ct_acopy C mw_183 mw_184 mw_185 mw_186 hk2 hk3 h.1 h.2.1 h.2.2.1 h.2.2.2.1 h.2.2.2.2.1 (Nat.le_of_ble_eq_true rfl) (Nat.le_of_ble_eq_true rfl) dX10_copyFrom_77 ?_
      have h := h.2.2.2.2.2
      refine ct_mem (fun m4 em4 => ?_)
      have h := h m4 em4
      refine ct_aload_n C dX10_copyFrom_80 1 rfl rfl ?_
      refine gf_X10_27 C dX10_copyFrom_81 kv1 ?_
      have hk5 := ct_t10_5 kv1
      refine ct_iconst C dX10_copyFrom_84 (0 : Int32) (by decide) ?_
      refine ct_aload_n C dX10_copyFrom_85 0 rfl rfl ?_
      refine gf_X10_27 C dX10_copyFrom_86 kv0 ?_
      have hk6 := ct_t10_5 kv0
      refine ct_iconst C dX10_copyFrom_89 (0 : Int32) (by decide) ?_
      refine ct_iconst C dX10_copyFrom_90 (4 : Int32) (by decide) ?_
      refine ct_acopy C mw_183 mw_184 mw_185 mw_186 hk5 hk6 h.1 h.2.1 h.2.2.1 h.2.2.2.1 h.2.2.2.2.1 (Nat.le_of_ble_eq_true rfl) (Nat.le_of_ble_eq_true rfl) dX10_copyFrom_91 ?_
      have h := h.2.2.2.2.2
      refine ct_mem (fun m7 em7 => ?_)
      have h := h m7 em7
      refine ct_aload_n C dX10_copyFrom_94 1 rfl rfl ?_
      refine gf_X10_30 C dX10_copyFrom_95 kv1 ?_
      have hk8 := ct_t10_6 kv1
      refine ct_iconst C dX10_copyFrom_98 (0 : Int32) (by decide) ?_
      refine ct_aload_n C dX10_copyFrom_99 0 rfl rfl ?_
      refine gf_X10_30 C dX10_copyFrom_100 kv0 ?_
      have hk9 := ct_t10_6 kv0
      refine ct_iconst C dX10_copyFrom_103 (0 : Int32) (by decide) ?_
      refine ct_iconst C dX10_copyFrom_104 (4 : Int32) (by decide) ?_
      refine ct_acopy C mw_183 mw_184 mw_185 mw_186 hk8 hk9 h.1 h.2.1 h.2.2.1 h.2.2.2.1 h.2.2.2.2.1 (Nat.le_of_ble_eq_true rfl) (Nat.le_of_ble_eq_true rfl) dX10_copyFrom_105 ?_
      have h := h.2.2.2.2.2
      refine ct_mem (fun m10 em10 => ?_)
      have h := h m10 em10
      refine ct_aload_n C dX10_copyFrom_108 0 rfl rfl ?_
      refine ct_aload_n C dX10_copyFrom_109 1 rfl rfl ?_
      refine gf_X10_46 C dX10_copyFrom_110 kv1 ?_
      refine pf_X10_46 C dX10_copyFrom_113 kv0 ?_
      refine ct_mem (fun m11 em11 => ?_)
      have h := h m11 em11
      exact ct_vret C hr hlk dX10_copyFrom_116 h
    · have h := h.2 hc1
      refine ct_aload_n C dX10_copyFrom_45 0 rfl rfl ?_
      refine gf_X10_20 C dX10_copyFrom_46 kv0 ?_
      have hk12 := ct_t10_2 kv0
      refine ct_iload_n C dX10_copyFrom_49 2 rfl rfl ?_
      refine ct_aald19 C dX10_copyFrom_50 hk12 h.1 ?_
      have hk13 := ct_e19 hk12 (ct_vin h.1)
      have h := h.2
      refine ct_aload_n C dX10_copyFrom_51 1 rfl rfl ?_
      refine gf_X10_20 C dX10_copyFrom_52 kv1 ?_
      have hk14 := ct_t10_2 kv1
      refine ct_iload_n C dX10_copyFrom_55 2 rfl rfl ?_
      refine ct_aald19 C dX10_copyFrom_56 hk14 h.1 ?_
      have hk15 := ct_e19 hk14 (ct_vin h.1)
      have h := h.2
      refine ct_callVv (As := [.ref (o + ((v1 + 3) + 4 + 15 * v2.toNatClampNeg))]) (T := TX9) C (c_X9_copyFrom l D cy o hk13 hk15 h) kv_X10_177 hk13.1 (ct_E9 hk13) rfl rfl rfl (Nat.le_of_ble_eq_true rfl) ⟨rfl, rfl, Nat.le_of_ble_eq_true rfl, Nat.le_of_ble_eq_true rfl⟩ ⟨Nat.zero_le _, Nat.zero_le _⟩ dX10_copyFrom_57 (fun m16 h => ?_)
      obtain ⟨x17, ex17⟩ : ∃ z : Int32, z = v2 + (1 : Int32) := ⟨_, rfl⟩
      have h := h x17 ex17
      refine ct_iinc (k := 2) (v := x17) C dX10_copyFrom_60 [(2, .int x17), (0, .ref (o + v0)), (1, .ref (o + v1))] rfl (by rw [ex17]; rfl) (by decide) rfl ?_
      refine ct_goto C dX10_copyFrom_63 40 (by decide) ?_
      refine ct_sub [1, 2, 0] [(0, .ref (o + v0)), (1, .ref (o + v1)), (2, .int x17)] rfl ?_
      exact ih _ _ _ _ kv0 kv1 h
set_option maxHeartbeats 4000000 in
set_option maxRecDepth 100000 in
theorem c_X10_copyFrom (l : Launch) (D : va_G) (cy : Nat → ClassId) (o : Nat) {a0 : Nat} {a1 : Nat} {Q : ct_M → Prop} {m : ct_M} (ka0 : ct_K 10 a0) (ka1 : ct_K 10 a1) (h : wp_X10_copyFrom a0 a1 Q m) : Met l yX10_copyFrom (ct_ws yX10_copyFrom cX10_copyFrom 3 none) rm_X10_copyFrom (va_Pc [.ref (o + a0), .ref (o + a1)] (ct_P D cy o ct_NN m)) (va_Qv Q (ct_P D cy o ct_NN) (fun q => o ≤ q)) 0 0 (fun q => o ≤ q) := by
  refine ct_met l D cy o ct_NN m (by decide) (Nat.le_of_ble_eq_true rfl) (fun p e s mth args below meth c C hr hlk => ?_)
  refine ct_sub [0, 1] [(0, .ref (o + a0)), (1, .ref (o + a1))] rfl ?_
  unfold wp_X10_copyFrom at h
  refine ct_aload_n C dX10_copyFrom_0 1 rfl rfl ?_
  refine gf_X10_9 C dX10_copyFrom_1 ka1 ?_
  have hk1 := ct_t10_0 ka1
  refine ct_iconst C dX10_copyFrom_4 (0 : Int32) (by decide) ?_
  refine ct_aload_n C dX10_copyFrom_5 0 rfl rfl ?_
  refine gf_X10_9 C dX10_copyFrom_6 ka0 ?_
  have hk2 := ct_t10_0 ka0
  refine ct_iconst C dX10_copyFrom_9 (0 : Int32) (by decide) ?_
  refine ct_bipush C dX10_copyFrom_10 (6 : Int32) (by decide) ?_
  refine ct_acopy C mw_183 mw_184 mw_185 mw_186 hk1 hk2 h.1 h.2.1 h.2.2.1 h.2.2.2.1 h.2.2.2.2.1 (Nat.le_of_ble_eq_true rfl) (Nat.le_of_ble_eq_true rfl) dX10_copyFrom_12 ?_
  have h := h.2.2.2.2.2
  refine ct_mem (fun m3 em3 => ?_)
  have h := h m3 em3
  refine ct_aload_n C dX10_copyFrom_15 1 rfl rfl ?_
  refine gf_X10_15 C dX10_copyFrom_16 ka1 ?_
  have hk4 := ct_t10_1 ka1
  refine ct_iconst C dX10_copyFrom_19 (0 : Int32) (by decide) ?_
  refine ct_aload_n C dX10_copyFrom_20 0 rfl rfl ?_
  refine gf_X10_15 C dX10_copyFrom_21 ka0 ?_
  have hk5 := ct_t10_1 ka0
  refine ct_iconst C dX10_copyFrom_24 (0 : Int32) (by decide) ?_
  refine ct_bipush C dX10_copyFrom_25 (6 : Int32) (by decide) ?_
  refine ct_acopy C mw_183 mw_184 mw_185 mw_186 hk4 hk5 h.1 h.2.1 h.2.2.1 h.2.2.2.1 h.2.2.2.2.1 (Nat.le_of_ble_eq_true rfl) (Nat.le_of_ble_eq_true rfl) dX10_copyFrom_27 ?_
  have h := h.2.2.2.2.2
  refine ct_mem (fun m6 em6 => ?_)
  have h := h m6 em6
  refine ct_aload_n C dX10_copyFrom_30 0 rfl rfl ?_
  refine ct_aload_n C dX10_copyFrom_31 1 rfl rfl ?_
  refine gf_X10_42 C dX10_copyFrom_32 ka1 ?_
  refine pf_X10_42 C dX10_copyFrom_35 ka0 ?_
  refine ct_mem (fun m7 em7 => ?_)
  have h := h m7 em7
  refine ct_iconst C dX10_copyFrom_38 (0 : Int32) (by decide) ?_
  refine ct_istore_n C dX10_copyFrom_39 [(2, .int (0 : Int32)), (0, .ref (o + a0)), (1, .ref (o + a1))] rfl (by decide) rfl ?_
  refine ct_sub [1, 2, 0] [(0, .ref (o + a0)), (1, .ref (o + a1)), (2, .int (0 : Int32))] rfl ?_
  obtain ⟨n8, h⟩ := h
  exact kb_X10_copyFrom_40 C hr hlk  n8 _ _ _ _ ka0 ka1 h
abbrev rm_X1_remember : Room := { frames := 4, cells := 0, slots := 0, locals := 87 }
set_option maxHeartbeats 4000000 in
set_option maxRecDepth 100000 in
theorem kb_X1_remember_52 {p : Program} {l : Launch} {e : Env} {s : State} {mth : MethodId} {args : Array Value} {below : List Frame} {meth : Method} {c : Code} {D : va_G} {cy : Nat → ClassId} {o : Nat} {Q : ct_M → Prop} {v0 : Nat} {s0 : Int32} {s1 : Nat} {m : ct_M} (C : ct_Cx p s mth c cX1_remember 2 args RX1 D cy) (hr : meth.sig.returnType = none) (hlk : meth.locks = false) (kv0 : ct_K 1 v0) (ks1 : ct_K 1 s1) (h : wb_X1_remember_52 Q v0 s0 s1 m) : ct_J p l e rm_X1_remember s mth args below meth c 2 D cy o ct_NN 0 0 (MQ below (va_Qv Q (ct_P D cy o ct_NN) (fun q => o ≤ q)) args s 0 0 (fun q => o ≤ q)) m 52 [(0, .ref (o + v0))] [.int s0, .ref (o + s1)] := by
  unfold wb_X1_remember_52 at h
  refine pf_X1_20 C dX1_remember_52 ks1 ?_
  refine ct_mem (fun m1 em1 => ?_)
  have h := h m1 em1
  refine ct_aload_n C dX1_remember_55 0 rfl rfl ?_
  refine ct_aload_n C dX1_remember_56 0 rfl rfl ?_
  refine gf_X1_28 C dX1_remember_57 kv0 ?_
  refine ct_iconst C dX1_remember_60 (1 : Int32) (by decide) ?_
  refine ct_iadd C dX1_remember_61 ?_
  refine ct_bipush C dX1_remember_62 (14 : Int32) (by decide) ?_
  refine ct_mmin C mw_194 mw_195 mw_196 mw_197 (Nat.le_of_ble_eq_true rfl) (Nat.le_of_ble_eq_true rfl) ⟨Nat.zero_le _, Nat.zero_le _⟩ dX1_remember_64 ?_
  refine pf_X1_28 C dX1_remember_67 kv0 ?_
  refine ct_mem (fun m2 em2 => ?_)
  have h := h m2 em2
  exact ct_vret C hr hlk dX1_remember_70 h
set_option maxHeartbeats 4000000 in
set_option maxRecDepth 100000 in
theorem c_X1_remember (l : Launch) (D : va_G) (cy : Nat → ClassId) (o : Nat) {a0 : Nat} {a1 : Nat} {Q : ct_M → Prop} {m : ct_M} (ka0 : ct_K 1 a0) (ka1 : ct_K 10 a1) (h : wp_X1_remember a0 a1 Q m) : Met l yX1_remember (ct_ws yX1_remember cX1_remember 2 none) rm_X1_remember (va_Pc [.ref (o + a0), .ref (o + a1)] (ct_P D cy o ct_NN m)) (va_Qv Q (ct_P D cy o ct_NN) (fun q => o ≤ q)) 0 0 (fun q => o ≤ q) := by
  refine ct_met l D cy o ct_NN m (by decide) (Nat.le_of_ble_eq_true rfl) (fun p e s mth args below meth c C hr hlk => ?_)
  refine ct_sub [0, 1] [(0, .ref (o + a0)), (1, .ref (o + a1))] rfl ?_
  unfold wp_X1_remember at h
  refine ct_aload_n C dX1_remember_0 0 rfl rfl ?_
  refine gf_X1_20 C dX1_remember_1 ka0 ?_
  refine ct_if_lt C dX1_remember_4 16 (by decide) (fun hc1 => ?_) (fun hc1 => ?_)
  · have h := h.1 hc1
    exact ct_vret C hr hlk dX1_remember_16 h
  · have h := h.2 hc1
    refine ct_aload_n C dX1_remember_7 0 rfl rfl ?_
    refine gf_X1_20 C dX1_remember_8 ka0 ?_
    refine ct_bipush C dX1_remember_11 (14 : Int32) (by decide) ?_
    refine ct_icmp_lt C dX1_remember_13 17 (by decide) (fun hc2 => ?_) (fun hc2 => ?_)
    · have h := h.1 hc2
      refine ct_aload_n C dX1_remember_17 0 rfl rfl ?_
      refine gf_X1_11 C dX1_remember_18 ka0 ?_
      have hk3 := ct_t1_0 ka0
      refine ct_aload_n C dX1_remember_21 0 rfl rfl ?_
      refine gf_X1_20 C dX1_remember_22 ka0 ?_
      refine ct_aald20 C dX1_remember_25 hk3 h.1 ?_
      have hk4 := ct_e20 hk3 (ct_vin h.1)
      have h := h.2
      refine ct_aload_n C dX1_remember_26 1 rfl rfl ?_
      refine ct_callVv (As := [.ref (o + a1)]) (T := TX10) C (c_X10_copyFrom l D cy o hk4 ka1 h) kv_X1_24 hk4.1 (ct_E10 hk4) rfl rfl rfl (Nat.le_of_ble_eq_true rfl) ⟨rfl, rfl, Nat.le_of_ble_eq_true rfl, Nat.le_of_ble_eq_true rfl⟩ ⟨Nat.zero_le _, Nat.zero_le _⟩ dX1_remember_27 (fun m5 h => ?_)
      refine ct_aload_n C dX1_remember_30 0 rfl rfl ?_
      refine ct_aload_n C dX1_remember_31 0 rfl rfl ?_
      refine gf_X1_20 C dX1_remember_32 ka0 ?_
      refine ct_iconst C dX1_remember_35 (1 : Int32) (by decide) ?_
      refine ct_iadd C dX1_remember_36 ?_
      refine ct_bipush C dX1_remember_37 (14 : Int32) (by decide) ?_
      refine ct_icmp_ge C dX1_remember_39 51 (by decide) (fun hc6 => ?_) (fun hc6 => ?_)
      · have h := h.1 hc6
        refine ct_iconst C dX1_remember_51 (0 : Int32) (by decide) ?_
        refine ct_sub [0] [(0, .ref (o + a0))] rfl ?_
        exact kb_X1_remember_52 C hr hlk  ka0 ka0 h
      · have h := h.2 hc6
        refine ct_aload_n C dX1_remember_42 0 rfl rfl ?_
        refine gf_X1_20 C dX1_remember_43 ka0 ?_
        refine ct_iconst C dX1_remember_46 (1 : Int32) (by decide) ?_
        refine ct_iadd C dX1_remember_47 ?_
        refine ct_goto C dX1_remember_48 52 (by decide) ?_
        refine ct_sub [0] [(0, .ref (o + a0))] rfl ?_
        exact kb_X1_remember_52 C hr hlk  ka0 ka0 h
    · have h := h.2 hc2
      exact ct_vret C hr hlk dX1_remember_16 h
abbrev rm_X5_has : Room := { frames := 0, cells := 0, slots := 0, locals := 0 }
set_option maxHeartbeats 4000000 in
set_option maxRecDepth 100000 in
theorem c_X5_has (l : Launch) (D : va_G) (cy : Nat → ClassId) (o : Nat) {a0 : Nat} {p1 : Int32} {Q : Int32 → ct_M → Prop} {m : ct_M} (ka0 : ct_K 5 a0) (h : wp_X5_has a0 p1 Q m) : Met l yX5_has (ct_ws yX5_has cX5_has 2 (some .boolean)) rm_X5_has (va_Pc [.ref (o + a0), .int p1] (ct_P D cy o ct_NN m)) (va_Qi Q (ct_P D cy o ct_NN) (fun q => o ≤ q)) 0 0 (fun q => o ≤ q) := by
  refine ct_met l D cy o ct_NN m (by decide) (Nat.le_of_ble_eq_true rfl) (fun p e s mth args below meth c C hr hlk => ?_)
  refine ct_sub [0, 1] [(0, .ref (o + a0)), (1, .int p1)] rfl ?_
  unfold wp_X5_has at h
  refine ct_iload_n C dX5_has_0 1 rfl rfl ?_
  refine ct_if_lt C dX5_has_1 22 (by decide) (fun hc1 => ?_) (fun hc1 => ?_)
  · have h := h.1 hc1
    refine ct_iconst C dX5_has_22 (0 : Int32) (by decide) ?_
    exact ct_zret C hr hlk dX5_has_23 (by decide) h
  · have h := h.2 hc1
    refine ct_iload_n C dX5_has_4 1 rfl rfl ?_
    refine ct_aload_n C dX5_has_5 0 rfl rfl ?_
    refine gf_X5_25 C dX5_has_6 ka0 ?_
    refine ct_icmp_ge C dX5_has_9 22 (by decide) (fun hc2 => ?_) (fun hc2 => ?_)
    · have h := h.1 hc2
      refine ct_iconst C dX5_has_22 (0 : Int32) (by decide) ?_
      exact ct_zret C hr hlk dX5_has_23 (by decide) h
    · have h := h.2 hc2
      refine ct_iload_n C dX5_has_12 1 rfl rfl ?_
      refine ct_bipush C dX5_has_13 (60 : Int32) (by decide) ?_
      refine ct_icmp_ge C dX5_has_15 22 (by decide) (fun hc3 => ?_) (fun hc3 => ?_)
      · have h := h.1 hc3
        refine ct_iconst C dX5_has_22 (0 : Int32) (by decide) ?_
        exact ct_zret C hr hlk dX5_has_23 (by decide) h
      · have h := h.2 hc3
        refine ct_iconst C dX5_has_18 (1 : Int32) (by decide) ?_
        refine ct_goto C dX5_has_19 23 (by decide) ?_
        exact ct_zret C hr hlk dX5_has_23 (by decide) h
abbrev rm_X0_put : Room := { frames := 1, cells := 0, slots := 0, locals := 20 }
set_option maxHeartbeats 4000000 in
set_option maxRecDepth 100000 in
theorem c_X0_put (l : Launch) (D : va_G) (cy : Nat → ClassId) (o : Nat) {a0 : Nat} {p1 : Int32} {p2 : Int32} {Q : ct_M → Prop} {m : ct_M} (ka0 : ct_K 0 a0) (h : wp_X0_put a0 p1 p2 Q m) : Met l yX0_put (ct_ws yX0_put cX0_put 3 none) rm_X0_put (va_Pc [.ref (o + a0), .int p1, .int p2] (ct_P D cy o ct_NN m)) (va_Qv Q (ct_P D cy o ct_NN) (fun q => o ≤ q)) 0 0 (fun q => o ≤ q) := by
  refine ct_met l D cy o ct_NN m (by decide) (Nat.le_of_ble_eq_true rfl) (fun p e s mth args below meth c C hr hlk => ?_)
  refine ct_sub [0, 1, 2] [(0, .ref (o + a0)), (1, .int p1), (2, .int p2)] rfl ?_
  unfold wp_X0_put at h
  refine ct_iload_n C dX0_put_0 1 rfl rfl ?_
  refine ct_callNi (As := [.int p1]) C (c_X11_isCell l D cy o  h) kv_X0_19 rfl rfl (Nat.le_of_ble_eq_true rfl) ⟨rfl, rfl, Nat.le_of_ble_eq_true rfl, Nat.le_of_ble_eq_true rfl⟩ ⟨Nat.zero_le _, Nat.zero_le _⟩ dX0_put_1 (fun r2 m1 h => ?_)
  refine ct_if_eq C dX0_put_4 26 (by decide) (fun hc3 => ?_) (fun hc3 => ?_)
  · have h := h.1 hc3
    exact ct_vret C hr hlk dX0_put_26 h
  · have h := h.2 hc3
    refine ct_aload_n C dX0_put_7 0 rfl rfl ?_
    refine ct_dup C dX0_put_8 rfl ?_
    refine gf_X0_15 C dX0_put_9 ka0 ?_
    refine ct_iconst C dX0_put_12 (1 : Int32) (by decide) ?_
    refine ct_iload_n C dX0_put_13 1 rfl rfl ?_
    refine ct_ishl C dX0_put_14 ?_
    refine ct_ior C dX0_put_15 ?_
    refine pf_X0_15 C dX0_put_16 ka0 ?_
    refine ct_mem (fun m4 em4 => ?_)
    have h := h m4 em4
    refine ct_aload_n C dX0_put_19 0 rfl rfl ?_
    refine gf_X0_9 C dX0_put_20 ka0 ?_
    have hk5 := ct_t0_1 ka0
    refine ct_iload_n C dX0_put_23 1 rfl rfl ?_
    refine ct_iload_n C dX0_put_24 2 rfl rfl ?_
    refine ct_iast C dX0_put_25 hk5 h.1 ?_
    have h := h.2
    refine ct_mem (fun m6 em6 => ?_)
    have h := h m6 em6
    exact ct_vret C hr hlk dX0_put_26 h
abbrev rm_X10_read : Room := { frames := 2, cells := 0, slots := 0, locals := 43 }
set_option maxHeartbeats 4000000 in
set_option maxRecDepth 100000 in
theorem c_X10_read (l : Launch) (D : va_G) (cy : Nat → ClassId) (o : Nat) {a0 : Nat} {a1 : Nat} {p2 : Int32} {Q : ct_M → Prop} {m : ct_M} (ka0 : ct_K 10 a0) (ka1 : ct_K 9 a1) (h : wp_X10_read a0 a1 p2 Q m) : Met l yX10_read (ct_ws yX10_read cX10_read 3 none) rm_X10_read (va_Pc [.ref (o + a0), .ref (o + a1), .int p2] (ct_P D cy o ct_NN m)) (va_Qv Q (ct_P D cy o ct_NN) (fun q => o ≤ q)) 0 0 (fun q => o ≤ q) := by
  refine ct_met l D cy o ct_NN m (by decide) (Nat.le_of_ble_eq_true rfl) (fun p e s mth args below meth c C hr hlk => ?_)
  refine ct_sub [0, 1, 2] [(0, .ref (o + a0)), (1, .ref (o + a1)), (2, .int p2)] rfl ?_
  unfold wp_X10_read at h
  refine ct_iload_n C dX10_read_0 2 rfl rfl ?_
  refine ct_callNi (As := [.int p2]) C (c_X11_isCell l D cy o  h) kv_X10_62 rfl rfl (Nat.le_of_ble_eq_true rfl) ⟨rfl, rfl, Nat.le_of_ble_eq_true rfl, Nat.le_of_ble_eq_true rfl⟩ ⟨Nat.zero_le _, Nat.zero_le _⟩ dX10_read_1 (fun r2 m1 h => ?_)
  refine ct_if_ne C dX10_read_4 8 (by decide) (fun hc3 => ?_) (fun hc3 => ?_)
  · have h := h.1 hc3
    refine ct_aload_n C dX10_read_8 1 rfl rfl ?_
    refine ct_aload_n C dX10_read_9 0 rfl rfl ?_
    refine ct_aload_n C dX10_read_10 1 rfl rfl ?_
    refine ct_iload_n C dX10_read_11 2 rfl rfl ?_
    refine ct_callVi (As := [.ref (o + a1), .int p2]) (T := TX10) C (c_X10_valueFor l D cy o ka0 ka1 h) kv_X10_140 ka0.1 (ct_E10 ka0) rfl rfl rfl (Nat.le_of_ble_eq_true rfl) ⟨rfl, rfl, Nat.le_of_ble_eq_true rfl, Nat.le_of_ble_eq_true rfl⟩ ⟨Nat.zero_le _, Nat.zero_le _⟩ dX10_read_12 (fun r5 m4 h => ?_)
    refine pf_X10_113 C dX10_read_15 ka1 ?_
    refine ct_mem (fun m6 em6 => ?_)
    have h := h m6 em6
    refine ct_aload_n C dX10_read_18 1 rfl rfl ?_
    refine gf_X10_66 C dX10_read_19 ka1 ?_
    have hk7 := ct_t9_7 ka1
    refine ct_iload_n C dX10_read_22 2 rfl rfl ?_
    refine ct_callVi (As := [.int p2]) (T := TX0) C (c_X0_holds l D cy o hk7 h) kv_X10_70 hk7.1 (ct_E0 hk7) rfl rfl rfl (Nat.le_of_ble_eq_true rfl) ⟨rfl, rfl, Nat.le_of_ble_eq_true rfl, Nat.le_of_ble_eq_true rfl⟩ ⟨Nat.zero_le _, Nat.zero_le _⟩ dX10_read_23 (fun r9 m8 h => ?_)
    refine ct_if_ne C dX10_read_26 54 (by decide) (fun hc10 => ?_) (fun hc10 => ?_)
    · have h := h.1 hc10
      exact ct_vret C hr hlk dX10_read_54 h
    · have h := h.2 hc10
      refine ct_aload_n C dX10_read_29 1 rfl rfl ?_
      refine gf_X10_78 C dX10_read_30 ka1 ?_
      have hk11 := ct_t9_6 ka1
      refine ct_iload_n C dX10_read_33 2 rfl rfl ?_
      refine ct_callVi (As := [.int p2]) (T := TX0) C (c_X0_holds l D cy o hk11 h) kv_X10_70 hk11.1 (ct_E0 hk11) rfl rfl rfl (Nat.le_of_ble_eq_true rfl) ⟨rfl, rfl, Nat.le_of_ble_eq_true rfl, Nat.le_of_ble_eq_true rfl⟩ ⟨Nat.zero_le _, Nat.zero_le _⟩ dX10_read_34 (fun r13 m12 h => ?_)
      refine ct_if_ne C dX10_read_37 54 (by decide) (fun hc14 => ?_) (fun hc14 => ?_)
      · have h := h.1 hc14
        exact ct_vret C hr hlk dX10_read_54 h
      · have h := h.2 hc14
        refine ct_aload_n C dX10_read_40 1 rfl rfl ?_
        refine gf_X10_78 C dX10_read_41 ka1 ?_
        refine ct_iload_n C dX10_read_44 2 rfl rfl ?_
        refine ct_aload_n C dX10_read_45 0 rfl rfl ?_
        refine gf_X10_15 C dX10_read_46 ka0 ?_
        have hk15 := ct_t10_1 ka0
        refine ct_iload_n C dX10_read_49 2 rfl rfl ?_
        refine ct_iald C dX10_read_50 hk15 h.1 ?_
        have h := h.2
        refine ct_callVv (As := [.int p2, .int (m12.1 (a0 + 2) p2.toNatClampNeg)]) (T := TX0) C (c_X0_put l D cy o hk11 h) kv_X10_116 hk11.1 (ct_E0 hk11) rfl rfl rfl (Nat.le_of_ble_eq_true rfl) ⟨rfl, rfl, Nat.le_of_ble_eq_true rfl, Nat.le_of_ble_eq_true rfl⟩ ⟨Nat.zero_le _, Nat.zero_le _⟩ dX10_read_51 (fun m16 h => ?_)
        exact ct_vret C hr hlk dX10_read_54 h
  · have h := h.2 hc3
    exact ct_vret C hr hlk dX10_read_7 h
abbrev rm_X11_clamp : Room := { frames := 1, cells := 0, slots := 0, locals := 21 }
set_option maxHeartbeats 4000000 in
set_option maxRecDepth 100000 in
theorem c_X11_clamp (l : Launch) (D : va_G) (cy : Nat → ClassId) (o : Nat) {p0 : Int32} {Q : Int32 → ct_M → Prop} {m : ct_M} (h : wp_X11_clamp p0 Q m) : Met l yX11_clamp (ct_ws yX11_clamp cX11_clamp 1 (some .int)) rm_X11_clamp (va_Pc [.int p0] (ct_P D cy o ct_NN m)) (va_Qi Q (ct_P D cy o ct_NN) (fun q => o ≤ q)) 0 0 (fun q => o ≤ q) := by
  refine ct_met l D cy o ct_NN m (by decide) (Nat.le_of_ble_eq_true rfl) (fun p e s mth args below meth c C hr hlk => ?_)
  refine ct_sub [0] [(0, .int p0)] rfl ?_
  unfold wp_X11_clamp at h
  refine ct_bipush C dX11_clamp_0 (-99 : Int32) (by decide) ?_
  refine ct_bipush C dX11_clamp_2 (99 : Int32) (by decide) ?_
  refine ct_iload_n C dX11_clamp_4 0 rfl rfl ?_
  refine ct_mmin C mw_210 mw_195 mw_196 mw_197 (Nat.le_of_ble_eq_true rfl) (Nat.le_of_ble_eq_true rfl) ⟨Nat.zero_le _, Nat.zero_le _⟩ dX11_clamp_5 ?_
  refine ct_mmax C mw_211 mw_212 mw_196 mw_213 (Nat.le_of_ble_eq_true rfl) (Nat.le_of_ble_eq_true rfl) ⟨Nat.zero_le _, Nat.zero_le _⟩ dX11_clamp_8 ?_
  exact ct_ireti C hr hlk dX11_clamp_11 h
abbrev rm_X9_goBack : Room := { frames := 1, cells := 0, slots := 0, locals := 22 }
set_option maxHeartbeats 4000000 in
set_option maxRecDepth 100000 in
theorem kb_X9_goBack_66 {p : Program} {l : Launch} {e : Env} {s : State} {mth : MethodId} {args : Array Value} {below : List Frame} {meth : Method} {c : Code} {D : va_G} {cy : Nat → ClassId} {o : Nat} {Q : Int32 → ct_M → Prop} {K11 : Nat → Int32 → Int32 → ct_M → Prop} {v0 : Nat} {v1 : Int32} {v2 : Int32} {m : ct_M} (C : ct_Cx p s mth c cX9_goBack 4 args RX9 D cy) (hr : meth.sig.returnType = (some .int)) (hlk : meth.locks = false) (hK11 : ∀ (v0 : Nat) (v1 : Int32) (v2 : Int32) (m : ct_M), ct_K 9 v0 → K11 v0 v1 v2 m → ct_J p l e rm_X9_goBack s mth args below meth c 4 D cy o ct_NN 0 0 (MQ below (va_Qi Q (ct_P D cy o ct_NN) (fun q => o ≤ q)) args s 0 0 (fun q => o ≤ q)) m 11 [(0, .ref (o + v0)), (1, .int v1), (2, .int v2)] []) (kv0 : ct_K 9 v0) (h : wb_X9_goBack_66 K11 Q v0 v1 v2 m) : ct_J p l e rm_X9_goBack s mth args below meth c 4 D cy o ct_NN 0 0 (MQ below (va_Qi Q (ct_P D cy o ct_NN) (fun q => o ≤ q)) args s 0 0 (fun q => o ≤ q)) m 66 [(0, .ref (o + v0)), (1, .int v1), (2, .int v2)] [] := by
  unfold wb_X9_goBack_66 at h
  obtain ⟨x1, ex1⟩ : ∃ z : Int32, z = v2 + (-1 : Int32) := ⟨_, rfl⟩
  have h := h x1 ex1
  refine ct_iinc (k := 2) (v := x1) C dX9_goBack_66 [(2, .int x1), (0, .ref (o + v0)), (1, .int v1)] rfl (by rw [ex1]; rfl) (by decide) rfl ?_
  refine ct_goto C dX9_goBack_69 11 (by decide) ?_
  refine ct_sub [1, 2, 0] [(0, .ref (o + v0)), (1, .int v1), (2, .int x1)] rfl ?_
  exact hK11 _ _ _ _ kv0 h
set_option maxHeartbeats 4000000 in
set_option maxRecDepth 100000 in
theorem kb_X9_goBack_11 {p : Program} {l : Launch} {e : Env} {s : State} {mth : MethodId} {args : Array Value} {below : List Frame} {meth : Method} {c : Code} {D : va_G} {cy : Nat → ClassId} {o : Nat} {Q : Int32 → ct_M → Prop} (C : ct_Cx p s mth c cX9_goBack 4 args RX9 D cy) (hr : meth.sig.returnType = (some .int)) (hlk : meth.locks = false) : ∀ (n : Nat) (v0 : Nat) (v1 : Int32) (v2 : Int32) (m : ct_M) (kv0 : ct_K 9 v0), wb_X9_goBack_11 Q n v0 v1 v2 m → ct_J p l e rm_X9_goBack s mth args below meth c 4 D cy o ct_NN 0 0 (MQ below (va_Qi Q (ct_P D cy o ct_NN) (fun q => o ≤ q)) args s 0 0 (fun q => o ≤ q)) m 11 [(0, .ref (o + v0)), (1, .int v1), (2, .int v2)] [] := by
  intro n
  induction n with
  | zero => intro v0 v1 v2 m kv0 h; exact h.elim
  | succ n ih =>
    intro v0 v1 v2 m kv0 h
    unfold wb_X9_goBack_11 at h
    refine ct_iload_n C dX9_goBack_11 2 rfl rfl ?_
    refine ct_if_lt C dX9_goBack_12 72 (by decide) (fun hc1 => ?_) (fun hc1 => ?_)
    · have h := h.1 hc1
      refine ct_iconst C dX9_goBack_72 (-1 : Int32) (by decide) ?_
      exact ct_ireti C hr hlk dX9_goBack_73 h
    · have h := h.2 hc1
      refine ct_aload_n C dX9_goBack_15 0 rfl rfl ?_
      refine gf_X9_23 C dX9_goBack_16 kv0 ?_
      have hk2 := ct_t9_8 kv0
      refine ct_iload_n C dX9_goBack_19 2 rfl rfl ?_
      refine ct_aald17 C dX9_goBack_20 hk2 h.1 ?_
      have hk3 := ct_e17 hk2 (ct_vin h.1)
      have h := h.2
      refine ct_astore_n C dX9_goBack_21 [(3, .ref (o + ((v0 + 5) + 1 + 3 * v2.toNatClampNeg))), (0, .ref (o + v0)), (1, .int v1), (2, .int v2)] rfl (by decide) rfl ?_
      refine ct_aload_n C dX9_goBack_22 0 rfl rfl ?_
      refine gf_X9_55 C dX9_goBack_23 hk3 ?_
      refine ct_iload_n C dX9_goBack_26 2 rfl rfl ?_
      refine ct_icmp_ne C dX9_goBack_27 66 (by decide) (fun hc4 => ?_) (fun hc4 => ?_)
      · have h := h.1 hc4
        refine ct_sub [1, 2, 3] [(0, .ref (o + v0)), (1, .int v1), (2, .int v2)] rfl ?_
        exact kb_X9_goBack_66 C hr hlk ih kv0 h
      · have h := h.2 hc4
        refine ct_aload_n C dX9_goBack_30 0 rfl rfl ?_
        refine gf_X9_59 C dX9_goBack_31 hk3 ?_
        refine ct_if_ne C dX9_goBack_34 66 (by decide) (fun hc5 => ?_) (fun hc5 => ?_)
        · have h := h.1 hc5
          refine ct_sub [1, 2, 3] [(0, .ref (o + v0)), (1, .int v1), (2, .int v2)] rfl ?_
          exact kb_X9_goBack_66 C hr hlk ih kv0 h
        · have h := h.2 hc5
          refine ct_aload_n C dX9_goBack_37 1 rfl rfl ?_
          refine ct_aload_n C dX9_goBack_38 0 rfl rfl ?_
          refine gf_X9_72 C dX9_goBack_39 hk3 ?_
          refine pf_X9_36 C dX9_goBack_42 kv0 ?_
          refine ct_mem (fun m6 em6 => ?_)
          have h := h m6 em6
          refine ct_aload_n C dX9_goBack_45 1 rfl rfl ?_
          refine gf_X9_18 C dX9_goBack_46 kv0 ?_
          have hk7 := ct_t9_7 kv0
          refine ct_aload_n C dX9_goBack_49 0 rfl rfl ?_
          refine gf_X9_73 C dX9_goBack_50 hk3 ?_
          have hk8 := ct_t4_4 hk3
          refine ct_callVv (As := [.ref (o + (((v0 + 5) + 1 + 3 * v2.toNatClampNeg) + 1))]) (T := TX0) C (c_X0_copyFrom l D cy o hk7 hk8 h) kv_X9_74 hk7.1 (ct_E0 hk7) rfl rfl rfl (Nat.le_of_ble_eq_true rfl) ⟨rfl, rfl, Nat.le_of_ble_eq_true rfl, Nat.le_of_ble_eq_true rfl⟩ ⟨Nat.zero_le _, Nat.zero_le _⟩ dX9_goBack_53 (fun m9 h => ?_)
          refine ct_aload_n C dX9_goBack_56 1 rfl rfl ?_
          refine ct_aload_n C dX9_goBack_57 0 rfl rfl ?_
          refine gf_X9_69 C dX9_goBack_58 hk3 ?_
          refine pf_X9_39 C dX9_goBack_61 kv0 ?_
          refine ct_mem (fun m10 em10 => ?_)
          have h := h m10 em10
          refine ct_iload_n C dX9_goBack_64 3 rfl rfl ?_
          exact ct_ireti C hr hlk dX9_goBack_65 h
set_option maxHeartbeats 4000000 in
set_option maxRecDepth 100000 in
theorem c_X9_goBack (l : Launch) (D : va_G) (cy : Nat → ClassId) (o : Nat) {a0 : Nat} {p1 : Int32} {Q : Int32 → ct_M → Prop} {m : ct_M} (ka0 : ct_K 9 a0) (h : wp_X9_goBack a0 p1 Q m) : Met l yX9_goBack (ct_ws yX9_goBack cX9_goBack 4 (some .int)) rm_X9_goBack (va_Pc [.ref (o + a0), .int p1] (ct_P D cy o ct_NN m)) (va_Qi Q (ct_P D cy o ct_NN) (fun q => o ≤ q)) 0 0 (fun q => o ≤ q) := by
  refine ct_met l D cy o ct_NN m (by decide) (Nat.le_of_ble_eq_true rfl) (fun p e s mth args below meth c C hr hlk => ?_)
  refine ct_sub [0, 1] [(0, .ref (o + a0)), (1, .int p1)] rfl ?_
  unfold wp_X9_goBack at h
  refine ct_aload_n C dX9_goBack_0 0 rfl rfl ?_
  refine gf_X9_45 C dX9_goBack_1 ka0 ?_
  refine ct_iconst C dX9_goBack_4 (3 : Int32) (by decide) ?_
  refine ct_mmin C mw_219 mw_195 mw_196 mw_197 (Nat.le_of_ble_eq_true rfl) (Nat.le_of_ble_eq_true rfl) ⟨Nat.zero_le _, Nat.zero_le _⟩ dX9_goBack_5 ?_
  refine ct_iconst C dX9_goBack_8 (1 : Int32) (by decide) ?_
  refine ct_isub C dX9_goBack_9 ?_
  refine ct_topi (fun x1 ex1 => ?_)
  have h := h x1 ex1
  refine ct_istore_n C dX9_goBack_10 [(2, .int x1), (0, .ref (o + a0)), (1, .int p1)] rfl (by decide) rfl ?_
  refine ct_sub [1, 2, 0] [(0, .ref (o + a0)), (1, .int p1), (2, .int x1)] rfl ?_
  obtain ⟨n2, h⟩ := h
  exact kb_X9_goBack_11 C hr hlk  n2 _ _ _ _ ka0 h
abbrev rm_X10_readsAreCurrent : Room := { frames := 1, cells := 0, slots := 0, locals := 21 }
set_option maxHeartbeats 4000000 in
set_option maxRecDepth 100000 in
theorem kb_X10_readsAreCurrent_39 {p : Program} {l : Launch} {e : Env} {s : State} {mth : MethodId} {args : Array Value} {below : List Frame} {meth : Method} {c : Code} {D : va_G} {cy : Nat → ClassId} {o : Nat} {Q : Int32 → ct_M → Prop} {K2 : Nat → Nat → Int32 → ct_M → Prop} {v0 : Nat} {v1 : Nat} {v2 : Int32} {m : ct_M} (C : ct_Cx p s mth c cX10_readsAreCurrent 3 args RX10 D cy) (hr : meth.sig.returnType = (some .boolean)) (hlk : meth.locks = false) (hK2 : ∀ (v0 : Nat) (v1 : Nat) (v2 : Int32) (m : ct_M), ct_K 10 v0 → ct_K 9 v1 → K2 v0 v1 v2 m → ct_J p l e rm_X10_readsAreCurrent s mth args below meth c 3 D cy o ct_NN 0 0 (MQ below (va_Qi Q (ct_P D cy o ct_NN) (fun q => o ≤ q)) args s 0 0 (fun q => o ≤ q)) m 2 [(0, .ref (o + v0)), (1, .ref (o + v1)), (2, .int v2)] []) (kv0 : ct_K 10 v0) (kv1 : ct_K 9 v1) (h : wb_X10_readsAreCurrent_39 K2 Q v0 v1 v2 m) : ct_J p l e rm_X10_readsAreCurrent s mth args below meth c 3 D cy o ct_NN 0 0 (MQ below (va_Qi Q (ct_P D cy o ct_NN) (fun q => o ≤ q)) args s 0 0 (fun q => o ≤ q)) m 39 [(0, .ref (o + v0)), (1, .ref (o + v1)), (2, .int v2)] [] := by
  unfold wb_X10_readsAreCurrent_39 at h
  obtain ⟨x1, ex1⟩ : ∃ z : Int32, z = v2 + (1 : Int32) := ⟨_, rfl⟩
  have h := h x1 ex1
  refine ct_iinc (k := 2) (v := x1) C dX10_readsAreCurrent_39 [(2, .int x1), (0, .ref (o + v0)), (1, .ref (o + v1))] rfl (by rw [ex1]; rfl) (by decide) rfl ?_
  refine ct_goto C dX10_readsAreCurrent_42 2 (by decide) ?_
  refine ct_sub [1, 2, 0] [(0, .ref (o + v0)), (1, .ref (o + v1)), (2, .int x1)] rfl ?_
  exact hK2 _ _ _ _ kv0 kv1 h
set_option maxHeartbeats 4000000 in
set_option maxRecDepth 100000 in
theorem kb_X10_readsAreCurrent_2 {p : Program} {l : Launch} {e : Env} {s : State} {mth : MethodId} {args : Array Value} {below : List Frame} {meth : Method} {c : Code} {D : va_G} {cy : Nat → ClassId} {o : Nat} {Q : Int32 → ct_M → Prop} (C : ct_Cx p s mth c cX10_readsAreCurrent 3 args RX10 D cy) (hr : meth.sig.returnType = (some .boolean)) (hlk : meth.locks = false) : ∀ (n : Nat) (v0 : Nat) (v1 : Nat) (v2 : Int32) (m : ct_M) (kv0 : ct_K 10 v0) (kv1 : ct_K 9 v1), wb_X10_readsAreCurrent_2 Q n v0 v1 v2 m → ct_J p l e rm_X10_readsAreCurrent s mth args below meth c 3 D cy o ct_NN 0 0 (MQ below (va_Qi Q (ct_P D cy o ct_NN) (fun q => o ≤ q)) args s 0 0 (fun q => o ≤ q)) m 2 [(0, .ref (o + v0)), (1, .ref (o + v1)), (2, .int v2)] [] := by
  intro n
  induction n with
  | zero => intro v0 v1 v2 m kv0 kv1 h; exact h.elim
  | succ n ih =>
    intro v0 v1 v2 m kv0 kv1 h
    unfold wb_X10_readsAreCurrent_2 at h
    refine ct_iload_n C dX10_readsAreCurrent_2 2 rfl rfl ?_
    refine ct_bipush C dX10_readsAreCurrent_3 (6 : Int32) (by decide) ?_
    refine ct_icmp_ge C dX10_readsAreCurrent_5 45 (by decide) (fun hc1 => ?_) (fun hc1 => ?_)
    · have h := h.1 hc1
      refine ct_iconst C dX10_readsAreCurrent_45 (1 : Int32) (by decide) ?_
      exact ct_zret C hr hlk dX10_readsAreCurrent_46 (by decide) h
    · have h := h.2 hc1
      refine ct_aload_n C dX10_readsAreCurrent_8 1 rfl rfl ?_
      refine gf_X10_78 C dX10_readsAreCurrent_9 kv1 ?_
      have hk2 := ct_t9_6 kv1
      refine ct_iload_n C dX10_readsAreCurrent_12 2 rfl rfl ?_
      refine ct_callVi (As := [.int v2]) (T := TX0) C (c_X0_holds l D cy o hk2 h) kv_X10_70 hk2.1 (ct_E0 hk2) rfl rfl rfl (Nat.le_of_ble_eq_true rfl) ⟨rfl, rfl, Nat.le_of_ble_eq_true rfl, Nat.le_of_ble_eq_true rfl⟩ ⟨Nat.zero_le _, Nat.zero_le _⟩ dX10_readsAreCurrent_13 (fun r4 m3 h => ?_)
      refine ct_if_eq C dX10_readsAreCurrent_16 39 (by decide) (fun hc5 => ?_) (fun hc5 => ?_)
      · have h := h.1 hc5
        refine ct_sub [0, 1, 2] [(0, .ref (o + v0)), (1, .ref (o + v1)), (2, .int v2)] rfl ?_
        exact kb_X10_readsAreCurrent_39 C hr hlk ih kv0 kv1 h
      · have h := h.2 hc5
        refine ct_aload_n C dX10_readsAreCurrent_19 1 rfl rfl ?_
        refine gf_X10_78 C dX10_readsAreCurrent_20 kv1 ?_
        refine gf_X10_75 C dX10_readsAreCurrent_23 hk2 ?_
        have hk6 := ct_t0_1 hk2
        refine ct_iload_n C dX10_readsAreCurrent_26 2 rfl rfl ?_
        refine ct_iald C dX10_readsAreCurrent_27 hk6 h.1 ?_
        have h := h.2
        refine ct_aload_n C dX10_readsAreCurrent_28 0 rfl rfl ?_
        refine gf_X10_15 C dX10_readsAreCurrent_29 kv0 ?_
        have hk7 := ct_t10_1 kv0
        refine ct_iload_n C dX10_readsAreCurrent_32 2 rfl rfl ?_
        refine ct_iald C dX10_readsAreCurrent_33 hk7 h.1 ?_
        have h := h.2
        refine ct_icmp_eq C dX10_readsAreCurrent_34 39 (by decide) (fun hc8 => ?_) (fun hc8 => ?_)
        · have h := h.1 hc8
          refine ct_sub [0, 1, 2] [(0, .ref (o + v0)), (1, .ref (o + v1)), (2, .int v2)] rfl ?_
          exact kb_X10_readsAreCurrent_39 C hr hlk ih kv0 kv1 h
        · have h := h.2 hc8
          refine ct_iconst C dX10_readsAreCurrent_37 (0 : Int32) (by decide) ?_
          exact ct_zret C hr hlk dX10_readsAreCurrent_38 (by decide) h
set_option maxHeartbeats 4000000 in
set_option maxRecDepth 100000 in
theorem c_X10_readsAreCurrent (l : Launch) (D : va_G) (cy : Nat → ClassId) (o : Nat) {a0 : Nat} {a1 : Nat} {Q : Int32 → ct_M → Prop} {m : ct_M} (ka0 : ct_K 10 a0) (ka1 : ct_K 9 a1) (h : wp_X10_readsAreCurrent a0 a1 Q m) : Met l yX10_readsAreCurrent (ct_ws yX10_readsAreCurrent cX10_readsAreCurrent 3 (some .boolean)) rm_X10_readsAreCurrent (va_Pc [.ref (o + a0), .ref (o + a1)] (ct_P D cy o ct_NN m)) (va_Qi Q (ct_P D cy o ct_NN) (fun q => o ≤ q)) 0 0 (fun q => o ≤ q) := by
  refine ct_met l D cy o ct_NN m (by decide) (Nat.le_of_ble_eq_true rfl) (fun p e s mth args below meth c C hr hlk => ?_)
  refine ct_sub [0, 1] [(0, .ref (o + a0)), (1, .ref (o + a1))] rfl ?_
  unfold wp_X10_readsAreCurrent at h
  refine ct_iconst C dX10_readsAreCurrent_0 (0 : Int32) (by decide) ?_
  refine ct_istore_n C dX10_readsAreCurrent_1 [(2, .int (0 : Int32)), (0, .ref (o + a0)), (1, .ref (o + a1))] rfl (by decide) rfl ?_
  refine ct_sub [1, 2, 0] [(0, .ref (o + a0)), (1, .ref (o + a1)), (2, .int (0 : Int32))] rfl ?_
  obtain ⟨n1, h⟩ := h
  exact kb_X10_readsAreCurrent_2 C hr hlk  n1 _ _ _ _ ka0 ka1 h
abbrev rm_X9_startAgain : Room := { frames := 1, cells := 0, slots := 0, locals := 21 }
set_option maxHeartbeats 4000000 in
set_option maxRecDepth 100000 in
theorem c_X9_startAgain (l : Launch) (D : va_G) (cy : Nat → ClassId) (o : Nat) {a0 : Nat} {Q : ct_M → Prop} {m : ct_M} (ka0 : ct_K 9 a0) (h : wp_X9_startAgain a0 Q m) : Met l yX9_startAgain (ct_ws yX9_startAgain cX9_startAgain 1 none) rm_X9_startAgain (va_Pc [.ref (o + a0)] (ct_P D cy o ct_NN m)) (va_Qv Q (ct_P D cy o ct_NN) (fun q => o ≤ q)) 0 0 (fun q => o ≤ q) := by
  refine ct_met l D cy o ct_NN m (by decide) (Nat.le_of_ble_eq_true rfl) (fun p e s mth args below meth c C hr hlk => ?_)
  refine ct_sub [0] [(0, .ref (o + a0))] rfl ?_
  unfold wp_X9_startAgain at h
  refine ct_aload_n C dX9_startAgain_0 0 rfl rfl ?_
  refine ct_dup C dX9_startAgain_1 rfl ?_
  refine gf_X9_48 C dX9_startAgain_2 ka0 ?_
  refine ct_iconst C dX9_startAgain_5 (1 : Int32) (by decide) ?_
  refine ct_iadd C dX9_startAgain_6 ?_
  refine pf_X9_48 C dX9_startAgain_7 ka0 ?_
  refine ct_mem (fun m1 em1 => ?_)
  have h := h m1 em1
  refine ct_aload_n C dX9_startAgain_10 0 rfl rfl ?_
  refine ct_iconst C dX9_startAgain_11 (0 : Int32) (by decide) ?_
  refine ct_callVv (As := [.int (0 : Int32)]) (T := TX9) C (c_X9_become l D cy o ka0 h) kv_X9_51 ka0.1 (ct_E9 ka0) rfl rfl rfl (Nat.le_of_ble_eq_true rfl) ⟨rfl, rfl, Nat.le_of_ble_eq_true rfl, Nat.le_of_ble_eq_true rfl⟩ ⟨Nat.zero_le _, Nat.zero_le _⟩ dX9_startAgain_12 (fun m2 h => ?_)
  exact ct_vret C hr hlk dX9_startAgain_15 h
abbrev rm_X10_retry : Room := { frames := 2, cells := 0, slots := 0, locals := 45 }
set_option maxHeartbeats 4000000 in
set_option maxRecDepth 100000 in
theorem kb_X10_retry_35 {p : Program} {l : Launch} {e : Env} {s : State} {mth : MethodId} {args : Array Value} {below : List Frame} {meth : Method} {c : Code} {D : va_G} {cy : Nat → ClassId} {o : Nat} {Q : Int32 → ct_M → Prop} {v0 : Nat} {v1 : Nat} {m : ct_M} (C : ct_Cx p s mth c cX10_retry 3 args RX10 D cy) (hr : meth.sig.returnType = (some .int)) (hlk : meth.locks = false) (kv0 : ct_K 10 v0) (kv1 : ct_K 9 v1) (h : wb_X10_retry_35 Q v0 v1 m) : ct_J p l e rm_X10_retry s mth args below meth c 3 D cy o ct_NN 0 0 (MQ below (va_Qi Q (ct_P D cy o ct_NN) (fun q => o ≤ q)) args s 0 0 (fun q => o ≤ q)) m 35 [(0, .ref (o + v0)), (1, .ref (o + v1))] [] := by
  unfold wb_X10_retry_35 at h
  refine ct_aload_n C dX10_retry_35 0 rfl rfl ?_
  refine ct_aload_n C dX10_retry_36 1 rfl rfl ?_
  refine ct_callVi (As := [.ref (o + v1)]) (T := TX10) C (c_X10_readsAreCurrent l D cy o kv0 kv1 h) kv_X10_161 kv0.1 (ct_E10 kv0) rfl rfl rfl (Nat.le_of_ble_eq_true rfl) ⟨rfl, rfl, Nat.le_of_ble_eq_true rfl, Nat.le_of_ble_eq_true rfl⟩ ⟨Nat.zero_le _, Nat.zero_le _⟩ dX10_retry_37 (fun r2 m1 h => ?_)
  refine ct_if_ne C dX10_retry_40 49 (by decide) (fun hc3 => ?_) (fun hc3 => ?_)
  · have h := h.1 hc3
    refine ct_aload_n C dX10_retry_49 1 rfl rfl ?_
    refine ct_iconst C dX10_retry_50 (1 : Int32) (by decide) ?_
    refine pf_X10_59 C dX10_retry_51 kv1 ?_
    refine ct_mem (fun m4 em4 => ?_)
    have h := h m4 em4
    refine ct_iconst C dX10_retry_54 (3 : Int32) (by decide) ?_
    exact ct_ireti C hr hlk dX10_retry_55 h
  · have h := h.2 hc3
    refine ct_aload_n C dX10_retry_43 1 rfl rfl ?_
    refine ct_callVv (As := []) (T := TX9) C (c_X9_startAgain l D cy o kv1 h) kv_X10_81 kv1.1 (ct_E9 kv1) rfl rfl rfl (Nat.le_of_ble_eq_true rfl) ⟨rfl, rfl, Nat.le_of_ble_eq_true rfl, Nat.le_of_ble_eq_true rfl⟩ ⟨Nat.zero_le _, Nat.zero_le _⟩ dX10_retry_44 (fun m5 h => ?_)
    refine ct_iconst C dX10_retry_47 (2 : Int32) (by decide) ?_
    exact ct_ireti C hr hlk dX10_retry_48 h
set_option maxHeartbeats 4000000 in
set_option maxRecDepth 100000 in
theorem c_X10_retry (l : Launch) (D : va_G) (cy : Nat → ClassId) (o : Nat) {a0 : Nat} {a1 : Nat} {Q : Int32 → ct_M → Prop} {m : ct_M} (ka0 : ct_K 10 a0) (ka1 : ct_K 9 a1) (h : wp_X10_retry a0 a1 Q m) : Met l yX10_retry (ct_ws yX10_retry cX10_retry 3 (some .int)) rm_X10_retry (va_Pc [.ref (o + a0), .ref (o + a1)] (ct_P D cy o ct_NN m)) (va_Qi Q (ct_P D cy o ct_NN) (fun q => o ≤ q)) 0 0 (fun q => o ≤ q) := by
  refine ct_met l D cy o ct_NN m (by decide) (Nat.le_of_ble_eq_true rfl) (fun p e s mth args below meth c C hr hlk => ?_)
  refine ct_sub [0, 1] [(0, .ref (o + a0)), (1, .ref (o + a1))] rfl ?_
  unfold wp_X10_retry at h
  refine ct_aload_n C dX10_retry_0 1 rfl rfl ?_
  refine ct_bipush C dX10_retry_1 (40 : Int32) (by decide) ?_
  refine ct_callVi (As := [.int (40 : Int32)]) (T := TX9) C (c_X9_goBack l D cy o ka1 h) kv_X10_144 ka1.1 (ct_E9 ka1) rfl rfl rfl (Nat.le_of_ble_eq_true rfl) ⟨rfl, rfl, Nat.le_of_ble_eq_true rfl, Nat.le_of_ble_eq_true rfl⟩ ⟨Nat.zero_le _, Nat.zero_le _⟩ dX10_retry_3 (fun r2 m1 h => ?_)
  refine ct_istore_n C dX10_retry_6 [(2, .int r2), (0, .ref (o + a0)), (1, .ref (o + a1))] rfl (by decide) rfl ?_
  refine ct_iload_n C dX10_retry_7 0 rfl rfl ?_
  refine ct_if_lt C dX10_retry_8 35 (by decide) (fun hc3 => ?_) (fun hc3 => ?_)
  · have h := h.1 hc3
    refine ct_sub [1, 2] [(0, .ref (o + a0)), (1, .ref (o + a1))] rfl ?_
    exact kb_X10_retry_35 C hr hlk  ka0 ka1 h
  · have h := h.2 hc3
    refine ct_iload_n C dX10_retry_11 0 rfl rfl ?_
    refine ct_iconst C dX10_retry_12 (3 : Int32) (by decide) ?_
    refine ct_icmp_ge C dX10_retry_13 35 (by decide) (fun hc4 => ?_) (fun hc4 => ?_)
    · have h := h.1 hc4
      refine ct_sub [1, 2] [(0, .ref (o + a0)), (1, .ref (o + a1))] rfl ?_
      exact kb_X10_retry_35 C hr hlk  ka0 ka1 h
    · have h := h.2 hc4
      refine ct_aload_n C dX10_retry_16 2 rfl rfl ?_
      refine gf_X10_148 C dX10_retry_17 ka1 ?_
      have hk5 := ct_t9_8 ka1
      refine ct_iload_n C dX10_retry_20 0 rfl rfl ?_
      refine ct_aald17 C dX10_retry_21 hk5 h.1 ?_
      have hk6 := ct_e17 hk5 (ct_vin h.1)
      have h := h.2
      refine ct_iconst C dX10_retry_22 (1 : Int32) (by decide) ?_
      refine pf_X10_152 C dX10_retry_23 hk6 (by decide) ?_
      refine ct_mem (fun m7 em7 => ?_)
      have h := h m7 em7
      refine ct_aload_n C dX10_retry_26 2 rfl rfl ?_
      refine ct_iload_n C dX10_retry_27 0 rfl rfl ?_
      refine ct_iconst C dX10_retry_28 (1 : Int32) (by decide) ?_
      refine ct_iadd C dX10_retry_29 ?_
      refine pf_X10_158 C dX10_retry_30 ka1 ?_
      refine ct_mem (fun m8 em8 => ?_)
      have h := h m8 em8
      refine ct_iconst C dX10_retry_33 (0 : Int32) (by decide) ?_
      exact ct_ireti C hr hlk dX10_retry_34 h
abbrev rm_X10_abandon : Room := { frames := 2, cells := 0, slots := 0, locals := 45 }
set_option maxHeartbeats 4000000 in
set_option maxRecDepth 100000 in
theorem c_X10_abandon (l : Launch) (D : va_G) (cy : Nat → ClassId) (o : Nat) {a0 : Nat} {a1 : Nat} {Q : Int32 → ct_M → Prop} {m : ct_M} (ka0 : ct_K 10 a0) (ka1 : ct_K 9 a1) (h : wp_X10_abandon a0 a1 Q m) : Met l yX10_abandon (ct_ws yX10_abandon cX10_abandon 3 (some .int)) rm_X10_abandon (va_Pc [.ref (o + a0), .ref (o + a1)] (ct_P D cy o ct_NN m)) (va_Qi Q (ct_P D cy o ct_NN) (fun q => o ≤ q)) 0 0 (fun q => o ≤ q) := by
  refine ct_met l D cy o ct_NN m (by decide) (Nat.le_of_ble_eq_true rfl) (fun p e s mth args below meth c C hr hlk => ?_)
  refine ct_sub [0, 1] [(0, .ref (o + a0)), (1, .ref (o + a1))] rfl ?_
  unfold wp_X10_abandon at h
  refine ct_aload_n C dX10_abandon_0 1 rfl rfl ?_
  refine ct_bipush C dX10_abandon_1 (123 : Int32) (by decide) ?_
  refine ct_callVi (As := [.int (123 : Int32)]) (T := TX9) C (c_X9_goBack l D cy o ka1 h) kv_X10_144 ka1.1 (ct_E9 ka1) rfl rfl rfl (Nat.le_of_ble_eq_true rfl) ⟨rfl, rfl, Nat.le_of_ble_eq_true rfl, Nat.le_of_ble_eq_true rfl⟩ ⟨Nat.zero_le _, Nat.zero_le _⟩ dX10_abandon_3 (fun r2 m1 h => ?_)
  refine ct_istore_n C dX10_abandon_6 [(2, .int r2), (0, .ref (o + a0)), (1, .ref (o + a1))] rfl (by decide) rfl ?_
  refine ct_iload_n C dX10_abandon_7 0 rfl rfl ?_
  refine ct_if_lt C dX10_abandon_8 18 (by decide) (fun hc3 => ?_) (fun hc3 => ?_)
  · have h := h.1 hc3
    refine ct_aload_n C dX10_abandon_18 2 rfl rfl ?_
    refine ct_iconst C dX10_abandon_19 (3 : Int32) (by decide) ?_
    refine ct_callVv (As := [.int (3 : Int32)]) (T := TX9) C (c_X9_become l D cy o ka1 h) kv_X10_55 ka1.1 (ct_E9 ka1) rfl rfl rfl (Nat.le_of_ble_eq_true rfl) ⟨rfl, rfl, Nat.le_of_ble_eq_true rfl, Nat.le_of_ble_eq_true rfl⟩ ⟨Nat.zero_le _, Nat.zero_le _⟩ dX10_abandon_20 (fun m4 h => ?_)
    refine ct_iconst C dX10_abandon_23 (4 : Int32) (by decide) ?_
    exact ct_ireti C hr hlk dX10_abandon_24 h
  · have h := h.2 hc3
    refine ct_aload_n C dX10_abandon_11 2 rfl rfl ?_
    refine ct_iload_n C dX10_abandon_12 0 rfl rfl ?_
    refine pf_X10_158 C dX10_abandon_13 ka1 ?_
    refine ct_mem (fun m5 em5 => ?_)
    have h := h m5 em5
    refine ct_iconst C dX10_abandon_16 (0 : Int32) (by decide) ?_
    exact ct_ireti C hr hlk dX10_abandon_17 h
abbrev rm_X5_behindPartner : Room := { frames := 1, cells := 0, slots := 0, locals := 21 }
set_option maxHeartbeats 4000000 in
set_option maxRecDepth 100000 in
theorem c_X5_behindPartner (l : Launch) (D : va_G) (cy : Nat → ClassId) (o : Nat) {a0 : Nat} {p1 : Int32} {Q : Int32 → ct_M → Prop} {m : ct_M} (ka0 : ct_K 5 a0) (h : wp_X5_behindPartner a0 p1 Q m) : Met l yX5_behindPartner (ct_ws yX5_behindPartner cX5_behindPartner 2 (some .int)) rm_X5_behindPartner (va_Pc [.ref (o + a0), .int p1] (ct_P D cy o ct_NN m)) (va_Qi Q (ct_P D cy o ct_NN) (fun q => o ≤ q)) 0 0 (fun q => o ≤ q) := by
  refine ct_met l D cy o ct_NN m (by decide) (Nat.le_of_ble_eq_true rfl) (fun p e s mth args below meth c C hr hlk => ?_)
  refine ct_sub [0, 1] [(0, .ref (o + a0)), (1, .int p1)] rfl ?_
  unfold wp_X5_behindPartner at h
  refine ct_aload_n C dX5_behindPartner_0 0 rfl rfl ?_
  refine ct_iload_n C dX5_behindPartner_1 1 rfl rfl ?_
  refine ct_callVi (As := [.int p1]) (T := TX5) C (c_X5_has l D cy o ka0 h) kv_X5_38 ka0.1 (ct_E5 ka0) rfl rfl rfl (Nat.le_of_ble_eq_true rfl) ⟨rfl, rfl, Nat.le_of_ble_eq_true rfl, Nat.le_of_ble_eq_true rfl⟩ ⟨Nat.zero_le _, Nat.zero_le _⟩ dX5_behindPartner_2 (fun r2 m1 h => ?_)
  refine ct_if_eq C dX5_behindPartner_5 19 (by decide) (fun hc3 => ?_) (fun hc3 => ?_)
  · have h := h.1 hc3
    refine ct_aload_n C dX5_behindPartner_19 0 rfl rfl ?_
    refine gf_X5_25 C dX5_behindPartner_20 ka0 ?_
    exact ct_ireti C hr hlk dX5_behindPartner_23 h
  · have h := h.2 hc3
    refine ct_aload_n C dX5_behindPartner_8 0 rfl rfl ?_
    refine gf_X5_19 C dX5_behindPartner_9 ka0 ?_
    have hk4 := ct_t5_2 ka0
    refine ct_iload_n C dX5_behindPartner_12 1 rfl rfl ?_
    refine ct_iald C dX5_behindPartner_13 hk4 h.1 ?_
    have h := h.2
    refine ct_iconst C dX5_behindPartner_14 (1 : Int32) (by decide) ?_
    refine ct_iadd C dX5_behindPartner_15 ?_
    refine ct_goto C dX5_behindPartner_16 23 (by decide) ?_
    exact ct_ireti C hr hlk dX5_behindPartner_23 h
abbrev rm_X9_openBlock : Room := { frames := 2, cells := 0, slots := 0, locals := 42 }
set_option maxHeartbeats 4000000 in
set_option maxRecDepth 100000 in
theorem c_X9_openBlock (l : Launch) (D : va_G) (cy : Nat → ClassId) (o : Nat) {a0 : Nat} {p1 : Int32} {Q : ct_M → Prop} {m : ct_M} (ka0 : ct_K 9 a0) (h : wp_X9_openBlock a0 p1 Q m) : Met l yX9_openBlock (ct_ws yX9_openBlock cX9_openBlock 3 none) rm_X9_openBlock (va_Pc [.ref (o + a0), .int p1] (ct_P D cy o ct_NN m)) (va_Qv Q (ct_P D cy o ct_NN) (fun q => o ≤ q)) 0 0 (fun q => o ≤ q) := by
  refine ct_met l D cy o ct_NN m (by decide) (Nat.le_of_ble_eq_true rfl) (fun p e s mth args below meth c C hr hlk => ?_)
  refine ct_sub [0, 1] [(0, .ref (o + a0)), (1, .int p1)] rfl ?_
  unfold wp_X9_openBlock at h
  refine ct_aload_n C dX9_openBlock_0 0 rfl rfl ?_
  refine gf_X9_45 C dX9_openBlock_1 ka0 ?_
  refine ct_if_lt C dX9_openBlock_4 79 (by decide) (fun hc1 => ?_) (fun hc1 => ?_)
  · have h := h.1 hc1
    exact ct_vret C hr hlk dX9_openBlock_79 h
  · have h := h.2 hc1
    refine ct_aload_n C dX9_openBlock_7 0 rfl rfl ?_
    refine gf_X9_45 C dX9_openBlock_8 ka0 ?_
    refine ct_iconst C dX9_openBlock_11 (3 : Int32) (by decide) ?_
    refine ct_icmp_ge C dX9_openBlock_12 79 (by decide) (fun hc2 => ?_) (fun hc2 => ?_)
    · have h := h.1 hc2
      exact ct_vret C hr hlk dX9_openBlock_79 h
    · have h := h.2 hc2
      refine ct_aload_n C dX9_openBlock_15 0 rfl rfl ?_
      refine gf_X9_23 C dX9_openBlock_16 ka0 ?_
      have hk3 := ct_t9_8 ka0
      refine ct_aload_n C dX9_openBlock_19 0 rfl rfl ?_
      refine gf_X9_45 C dX9_openBlock_20 ka0 ?_
      refine ct_aald17 C dX9_openBlock_23 hk3 h.1 ?_
      have hk4 := ct_e17 hk3 (ct_vin h.1)
      have h := h.2
      refine ct_astore_n C dX9_openBlock_24 [(2, .ref (o + ((a0 + 5) + 1 + 3 * (m.1 a0 9).toNatClampNeg))), (0, .ref (o + a0)), (1, .int p1)] rfl (by decide) rfl ?_
      refine ct_aload_n C dX9_openBlock_25 0 rfl rfl ?_
      refine ct_iload_n C dX9_openBlock_26 2 rfl rfl ?_
      refine pf_X9_55 C dX9_openBlock_27 hk4 h.1 ?_
      have h := h.2
      refine ct_mem (fun m5 em5 => ?_)
      have h := h m5 em5
      refine ct_aload_n C dX9_openBlock_30 0 rfl rfl ?_
      refine ct_iconst C dX9_openBlock_31 (0 : Int32) (by decide) ?_
      refine pf_X9_59 C dX9_openBlock_32 hk4 (by decide) ?_
      refine ct_mem (fun m6 em6 => ?_)
      have h := h m6 em6
      refine ct_aload_n C dX9_openBlock_35 0 rfl rfl ?_
      refine ct_aload_n C dX9_openBlock_36 1 rfl rfl ?_
      refine gf_X9_27 C dX9_openBlock_37 ka0 ?_
      have hk7 := ct_t9_0 ka0
      refine ct_aload_n C dX9_openBlock_40 1 rfl rfl ?_
      refine gf_X9_39 C dX9_openBlock_41 ka0 ?_
      refine ct_callVi (As := [.int (m6.1 a0 5)]) (T := TX5) C (c_X5_behindPartner l D cy o hk7 h) kv_X9_63 hk7.1 (ct_E5 hk7) rfl rfl rfl (Nat.le_of_ble_eq_true rfl) ⟨rfl, rfl, Nat.le_of_ble_eq_true rfl, Nat.le_of_ble_eq_true rfl⟩ ⟨Nat.zero_le _, Nat.zero_le _⟩ dX9_openBlock_44 (fun r9 m8 h => ?_)
      refine pf_X9_69 C dX9_openBlock_47 hk4 ?_
      refine ct_mem (fun m10 em10 => ?_)
      have h := h m10 em10
      refine ct_aload_n C dX9_openBlock_50 0 rfl rfl ?_
      refine ct_aload_n C dX9_openBlock_51 1 rfl rfl ?_
      refine gf_X9_36 C dX9_openBlock_52 ka0 ?_
      refine pf_X9_72 C dX9_openBlock_55 hk4 ?_
      refine ct_mem (fun m11 em11 => ?_)
      have h := h m11 em11
      refine ct_aload_n C dX9_openBlock_58 0 rfl rfl ?_
      refine gf_X9_73 C dX9_openBlock_59 hk4 ?_
      have hk12 := ct_t4_4 hk4
      refine ct_aload_n C dX9_openBlock_62 1 rfl rfl ?_
      refine gf_X9_18 C dX9_openBlock_63 ka0 ?_
      have hk13 := ct_t9_7 ka0
      refine ct_callVv (As := [.ref (o + (a0 + 3))]) (T := TX0) C (c_X0_copyFrom l D cy o hk12 hk13 h) kv_X9_74 hk12.1 (ct_E0 hk12) rfl rfl rfl (Nat.le_of_ble_eq_true rfl) ⟨rfl, rfl, Nat.le_of_ble_eq_true rfl, Nat.le_of_ble_eq_true rfl⟩ ⟨Nat.zero_le _, Nat.zero_le _⟩ dX9_openBlock_66 (fun m14 h => ?_)
      refine ct_aload_n C dX9_openBlock_69 1 rfl rfl ?_
      refine ct_dup C dX9_openBlock_70 rfl ?_
      refine gf_X9_45 C dX9_openBlock_71 ka0 ?_
      refine ct_iconst C dX9_openBlock_74 (1 : Int32) (by decide) ?_
      refine ct_iadd C dX9_openBlock_75 ?_
      refine pf_X9_45 C dX9_openBlock_76 ka0 ?_
      refine ct_mem (fun m15 em15 => ?_)
      have h := h m15 em15
      exact ct_vret C hr hlk dX9_openBlock_79 h
abbrev rm_X9_closeBlock : Room := { frames := 1, cells := 0, slots := 0, locals := 21 }
set_option maxHeartbeats 4000000 in
set_option maxRecDepth 100000 in
theorem c_X9_closeBlock (l : Launch) (D : va_G) (cy : Nat → ClassId) (o : Nat) {a0 : Nat} {Q : ct_M → Prop} {m : ct_M} (ka0 : ct_K 9 a0) (h : wp_X9_closeBlock a0 Q m) : Met l yX9_closeBlock (ct_ws yX9_closeBlock cX9_closeBlock 1 none) rm_X9_closeBlock (va_Pc [.ref (o + a0)] (ct_P D cy o ct_NN m)) (va_Qv Q (ct_P D cy o ct_NN) (fun q => o ≤ q)) 0 0 (fun q => o ≤ q) := by
  refine ct_met l D cy o ct_NN m (by decide) (Nat.le_of_ble_eq_true rfl) (fun p e s mth args below meth c C hr hlk => ?_)
  refine ct_sub [0] [(0, .ref (o + a0))] rfl ?_
  unfold wp_X9_closeBlock at h
  refine ct_aload_n C dX9_closeBlock_0 0 rfl rfl ?_
  refine ct_iconst C dX9_closeBlock_1 (0 : Int32) (by decide) ?_
  refine ct_aload_n C dX9_closeBlock_2 0 rfl rfl ?_
  refine gf_X9_45 C dX9_closeBlock_3 ka0 ?_
  refine ct_iconst C dX9_closeBlock_6 (1 : Int32) (by decide) ?_
  refine ct_isub C dX9_closeBlock_7 ?_
  refine ct_mmax C mw_246 mw_212 mw_196 mw_213 (Nat.le_of_ble_eq_true rfl) (Nat.le_of_ble_eq_true rfl) ⟨Nat.zero_le _, Nat.zero_le _⟩ dX9_closeBlock_8 ?_
  refine pf_X9_45 C dX9_closeBlock_11 ka0 ?_
  refine ct_mem (fun m1 em1 => ?_)
  have h := h m1 em1
  exact ct_vret C hr hlk dX9_closeBlock_14 h
abbrev rm_X10_execute : Room := { frames := 3, cells := 0, slots := 0, locals := 67 }
set_option maxHeartbeats 4000000 in
set_option maxRecDepth 100000 in
theorem kb_X10_execute_207 {p : Program} {l : Launch} {e : Env} {s : State} {mth : MethodId} {args : Array Value} {below : List Frame} {meth : Method} {c : Code} {D : va_G} {cy : Nat → ClassId} {o : Nat} {Q : Int32 → ct_M → Prop} {v1 : Nat} {m : ct_M} (C : ct_Cx p s mth c cX10_execute 4 args RX10 D cy) (hr : meth.sig.returnType = (some .int)) (hlk : meth.locks = false) (kv1 : ct_K 9 v1) (h : wb_X10_execute_207 Q v1 m) : ct_J p l e rm_X10_execute s mth args below meth c 4 D cy o ct_NN 0 0 (MQ below (va_Qi Q (ct_P D cy o ct_NN) (fun q => o ≤ q)) args s 0 0 (fun q => o ≤ q)) m 207 [(1, .ref (o + v1))] [] := by
  unfold wb_X10_execute_207 at h
  refine ct_aload_n C dX10_execute_207 0 rfl rfl ?_
  refine ct_dup C dX10_execute_208 rfl ?_
  refine gf_X10_88 C dX10_execute_209 kv1 ?_
  refine ct_iconst C dX10_execute_212 (1 : Int32) (by decide) ?_
  refine ct_iadd C dX10_execute_213 ?_
  refine pf_X10_88 C dX10_execute_214 kv1 ?_
  refine ct_mem (fun m1 em1 => ?_)
  have h := h m1 em1
  refine ct_iconst C dX10_execute_217 (0 : Int32) (by decide) ?_
  exact ct_ireti C hr hlk dX10_execute_218 h
set_option maxHeartbeats 4000000 in
set_option maxRecDepth 100000 in
theorem c_X10_execute (l : Launch) (D : va_G) (cy : Nat → ClassId) (o : Nat) {a0 : Nat} {a1 : Nat} {p2 : Int32} {p3 : Int32} {Q : Int32 → ct_M → Prop} {m : ct_M} (ka0 : ct_K 10 a0) (ka1 : ct_K 9 a1) (h : wp_X10_execute a0 a1 p2 p3 Q m) : Met l yX10_execute (ct_ws yX10_execute cX10_execute 4 (some .int)) rm_X10_execute (va_Pc [.ref (o + a0), .ref (o + a1), .int p2, .int p3] (ct_P D cy o ct_NN m)) (va_Qi Q (ct_P D cy o ct_NN) (fun q => o ≤ q)) 0 0 (fun q => o ≤ q) := by
  refine ct_met l D cy o ct_NN m (by decide) (Nat.le_of_ble_eq_true rfl) (fun p e s mth args below meth c C hr hlk => ?_)
  refine ct_sub [0, 1, 2, 3] [(0, .ref (o + a0)), (1, .ref (o + a1)), (2, .int p2), (3, .int p3)] rfl ?_
  unfold wp_X10_execute at h
  refine ct_iload_n C dX10_execute_0 2 rfl rfl ?_
  by_cases hc1 : p2 = (33 : Int32)
  · have h := h.1 hc1
    refine ct_lookup C dX10_execute_1 162 (by decide) (show Op.lookupswitch.offset _ _ _ = (161 : Int) by rw [hc1]; decide) (by decide) ?_
    refine ct_aload_n C dX10_execute_162 0 rfl rfl ?_
    refine ct_aload_n C dX10_execute_163 1 rfl rfl ?_
    refine ct_callVi (As := [.ref (o + a1)]) (T := TX10) C (c_X10_retry l D cy o ka0 ka1 h) kv_X10_124 ka0.1 (ct_E10 ka0) rfl rfl rfl (Nat.le_of_ble_eq_true rfl) ⟨rfl, rfl, Nat.le_of_ble_eq_true rfl, Nat.le_of_ble_eq_true rfl⟩ ⟨Nat.zero_le _, Nat.zero_le _⟩ dX10_execute_164 (fun r3 m2 h => ?_)
    exact ct_ireti C hr hlk dX10_execute_167 h
  · have h := h.2 hc1
    by_cases hc4 : p2 = (40 : Int32)
    · have h := h.1 hc4
      refine ct_lookup C dX10_execute_1 174 (by decide) (show Op.lookupswitch.offset _ _ _ = (173 : Int) by rw [hc4]; decide) (by decide) ?_
      refine ct_aload_n C dX10_execute_174 1 rfl rfl ?_
      refine ct_iload_n C dX10_execute_175 2 rfl rfl ?_
      refine ct_callVv (As := [.int p2]) (T := TX9) C (c_X9_openBlock l D cy o ka1 h) kv_X10_130 ka1.1 (ct_E9 ka1) rfl rfl rfl (Nat.le_of_ble_eq_true rfl) ⟨rfl, rfl, Nat.le_of_ble_eq_true rfl, Nat.le_of_ble_eq_true rfl⟩ ⟨Nat.zero_le _, Nat.zero_le _⟩ dX10_execute_176 (fun m5 h => ?_)
      refine ct_goto C dX10_execute_179 207 (by decide) ?_
      refine ct_sub [1] [(1, .ref (o + a1))] rfl ?_
      exact kb_X10_execute_207 C hr hlk  ka1 h
    · have h := h.2 hc4
      by_cases hc6 : p2 = (43 : Int32)
      · have h := h.1 hc6
        refine ct_lookup C dX10_execute_1 116 (by decide) (show Op.lookupswitch.offset _ _ _ = (115 : Int) by rw [hc6]; decide) (by decide) ?_
        refine ct_aload_n C dX10_execute_116 1 rfl rfl ?_
        refine ct_aload_n C dX10_execute_117 1 rfl rfl ?_
        refine gf_X10_113 C dX10_execute_118 ka1 ?_
        refine ct_iload_n C dX10_execute_121 3 rfl rfl ?_
        refine ct_iadd C dX10_execute_122 ?_
        refine ct_callNi (As := [.int ((m.1 a1 4) + p3)]) C (c_X11_clamp l D cy o  h) kv_X10_120 rfl rfl (Nat.le_of_ble_eq_true rfl) ⟨rfl, rfl, Nat.le_of_ble_eq_true rfl, Nat.le_of_ble_eq_true rfl⟩ ⟨Nat.zero_le _, Nat.zero_le _⟩ dX10_execute_123 (fun r8 m7 h => ?_)
        refine pf_X10_113 C dX10_execute_126 ka1 ?_
        refine ct_mem (fun m9 em9 => ?_)
        have h := h m9 em9
        refine ct_goto C dX10_execute_129 207 (by decide) ?_
        refine ct_sub [1] [(1, .ref (o + a1))] rfl ?_
        exact kb_X10_execute_207 C hr hlk  ka1 h
      · have h := h.2 hc6
        by_cases hc10 : p2 = (45 : Int32)
        · have h := h.1 hc10
          refine ct_lookup C dX10_execute_1 132 (by decide) (show Op.lookupswitch.offset _ _ _ = (131 : Int) by rw [hc10]; decide) (by decide) ?_
          refine ct_aload_n C dX10_execute_132 1 rfl rfl ?_
          refine ct_aload_n C dX10_execute_133 1 rfl rfl ?_
          refine gf_X10_113 C dX10_execute_134 ka1 ?_
          refine ct_iload_n C dX10_execute_137 3 rfl rfl ?_
          refine ct_isub C dX10_execute_138 ?_
          refine ct_callNi (As := [.int ((m.1 a1 4) - p3)]) C (c_X11_clamp l D cy o  h) kv_X10_120 rfl rfl (Nat.le_of_ble_eq_true rfl) ⟨rfl, rfl, Nat.le_of_ble_eq_true rfl, Nat.le_of_ble_eq_true rfl⟩ ⟨Nat.zero_le _, Nat.zero_le _⟩ dX10_execute_139 (fun r12 m11 h => ?_)
          refine pf_X10_113 C dX10_execute_142 ka1 ?_
          refine ct_mem (fun m13 em13 => ?_)
          have h := h m13 em13
          refine ct_goto C dX10_execute_145 207 (by decide) ?_
          refine ct_sub [1] [(1, .ref (o + a1))] rfl ?_
          exact kb_X10_execute_207 C hr hlk  ka1 h
        · have h := h.2 hc10
          by_cases hc14 : p2 = (63 : Int32)
          · have h := h.1 hc14
            refine ct_lookup C dX10_execute_1 148 (by decide) (show Op.lookupswitch.offset _ _ _ = (147 : Int) by rw [hc14]; decide) (by decide) ?_
            refine ct_aload_n C dX10_execute_148 1 rfl rfl ?_
            refine gf_X10_113 C dX10_execute_149 ka1 ?_
            refine ct_iload_n C dX10_execute_152 3 rfl rfl ?_
            refine ct_icmp_ge C dX10_execute_153 207 (by decide) (fun hc15 => ?_) (fun hc15 => ?_)
            · have h := h.1 hc15
              refine ct_sub [1] [(1, .ref (o + a1))] rfl ?_
              exact kb_X10_execute_207 C hr hlk  ka1 h
            · have h := h.2 hc15
              refine ct_aload_n C dX10_execute_156 0 rfl rfl ?_
              refine ct_aload_n C dX10_execute_157 1 rfl rfl ?_
              refine ct_callVi (As := [.ref (o + a1)]) (T := TX10) C (c_X10_retry l D cy o ka0 ka1 h) kv_X10_124 ka0.1 (ct_E10 ka0) rfl rfl rfl (Nat.le_of_ble_eq_true rfl) ⟨rfl, rfl, Nat.le_of_ble_eq_true rfl, Nat.le_of_ble_eq_true rfl⟩ ⟨Nat.zero_le _, Nat.zero_le _⟩ dX10_execute_158 (fun r17 m16 h => ?_)
              exact ct_ireti C hr hlk dX10_execute_161 h
          · have h := h.2 hc14
            by_cases hc18 : p2 = (114 : Int32)
            · have h := h.1 hc18
              refine ct_lookup C dX10_execute_1 92 (by decide) (show Op.lookupswitch.offset _ _ _ = (91 : Int) by rw [hc18]; decide) (by decide) ?_
              refine ct_aload_n C dX10_execute_92 0 rfl rfl ?_
              refine ct_aload_n C dX10_execute_93 1 rfl rfl ?_
              refine ct_iload_n C dX10_execute_94 3 rfl rfl ?_
              refine ct_callVv (As := [.ref (o + a1), .int p3]) (T := TX10) C (c_X10_read l D cy o ka0 ka1 h) kv_X10_109 ka0.1 (ct_E10 ka0) rfl rfl rfl (Nat.le_of_ble_eq_true rfl) ⟨rfl, rfl, Nat.le_of_ble_eq_true rfl, Nat.le_of_ble_eq_true rfl⟩ ⟨Nat.zero_le _, Nat.zero_le _⟩ dX10_execute_95 (fun m19 h => ?_)
              refine ct_goto C dX10_execute_98 207 (by decide) ?_
              refine ct_sub [1] [(1, .ref (o + a1))] rfl ?_
              exact kb_X10_execute_207 C hr hlk  ka1 h
            · have h := h.2 hc18
              by_cases hc20 : p2 = (119 : Int32)
              · have h := h.1 hc20
                refine ct_lookup C dX10_execute_1 101 (by decide) (show Op.lookupswitch.offset _ _ _ = (100 : Int) by rw [hc20]; decide) (by decide) ?_
                refine ct_aload_n C dX10_execute_101 1 rfl rfl ?_
                refine gf_X10_66 C dX10_execute_102 ka1 ?_
                have hk21 := ct_t9_7 ka1
                refine ct_iload_n C dX10_execute_105 3 rfl rfl ?_
                refine ct_aload_n C dX10_execute_106 1 rfl rfl ?_
                refine gf_X10_113 C dX10_execute_107 ka1 ?_
                refine ct_callVv (As := [.int p3, .int (m.1 a1 4)]) (T := TX0) C (c_X0_put l D cy o hk21 h) kv_X10_116 hk21.1 (ct_E0 hk21) rfl rfl rfl (Nat.le_of_ble_eq_true rfl) ⟨rfl, rfl, Nat.le_of_ble_eq_true rfl, Nat.le_of_ble_eq_true rfl⟩ ⟨Nat.zero_le _, Nat.zero_le _⟩ dX10_execute_110 (fun m22 h => ?_)
                refine ct_goto C dX10_execute_113 207 (by decide) ?_
                refine ct_sub [1] [(1, .ref (o + a1))] rfl ?_
                exact kb_X10_execute_207 C hr hlk  ka1 h
              · have h := h.2 hc20
                by_cases hc23 : p2 = (120 : Int32)
                · have h := h.1 hc23
                  refine ct_lookup C dX10_execute_1 168 (by decide) (show Op.lookupswitch.offset _ _ _ = (167 : Int) by rw [hc23]; decide) (by decide) ?_
                  refine ct_aload_n C dX10_execute_168 0 rfl rfl ?_
                  refine ct_aload_n C dX10_execute_169 1 rfl rfl ?_
                  refine ct_callVi (As := [.ref (o + a1)]) (T := TX10) C (c_X10_abandon l D cy o ka0 ka1 h) kv_X10_127 ka0.1 (ct_E10 ka0) rfl rfl rfl (Nat.le_of_ble_eq_true rfl) ⟨rfl, rfl, Nat.le_of_ble_eq_true rfl, Nat.le_of_ble_eq_true rfl⟩ ⟨Nat.zero_le _, Nat.zero_le _⟩ dX10_execute_170 (fun r25 m24 h => ?_)
                  exact ct_ireti C hr hlk dX10_execute_173 h
                · have h := h.2 hc23
                  by_cases hc26 : p2 = (123 : Int32)
                  · have h := h.1 hc26
                    refine ct_lookup C dX10_execute_1 174 (by decide) (show Op.lookupswitch.offset _ _ _ = (173 : Int) by rw [hc26]; decide) (by decide) ?_
                    refine ct_aload_n C dX10_execute_174 1 rfl rfl ?_
                    refine ct_iload_n C dX10_execute_175 2 rfl rfl ?_
                    refine ct_callVv (As := [.int p2]) (T := TX9) C (c_X9_openBlock l D cy o ka1 h) kv_X10_130 ka1.1 (ct_E9 ka1) rfl rfl rfl (Nat.le_of_ble_eq_true rfl) ⟨rfl, rfl, Nat.le_of_ble_eq_true rfl, Nat.le_of_ble_eq_true rfl⟩ ⟨Nat.zero_le _, Nat.zero_le _⟩ dX10_execute_176 (fun m27 h => ?_)
                    refine ct_goto C dX10_execute_179 207 (by decide) ?_
                    refine ct_sub [1] [(1, .ref (o + a1))] rfl ?_
                    exact kb_X10_execute_207 C hr hlk  ka1 h
                  · have h := h.2 hc26
                    by_cases hc28 : p2 = (124 : Int32)
                    · have h := h.1 hc28
                      refine ct_lookup C dX10_execute_1 182 (by decide) (show Op.lookupswitch.offset _ _ _ = (181 : Int) by rw [hc28]; decide) (by decide) ?_
                      refine ct_aload_n C dX10_execute_182 1 rfl rfl ?_
                      refine ct_callVv (As := []) (T := TX9) C (c_X9_closeBlock l D cy o ka1 h) kv_X10_134 ka1.1 (ct_E9 ka1) rfl rfl rfl (Nat.le_of_ble_eq_true rfl) ⟨rfl, rfl, Nat.le_of_ble_eq_true rfl, Nat.le_of_ble_eq_true rfl⟩ ⟨Nat.zero_le _, Nat.zero_le _⟩ dX10_execute_183 (fun m29 h => ?_)
                      refine ct_aload_n C dX10_execute_186 1 rfl rfl ?_
                      refine ct_aload_n C dX10_execute_187 1 rfl rfl ?_
                      refine gf_X10_84 C dX10_execute_188 ka1 ?_
                      have hk30 := ct_t9_0 ka1
                      refine ct_aload_n C dX10_execute_191 1 rfl rfl ?_
                      refine gf_X10_88 C dX10_execute_192 ka1 ?_
                      refine ct_callVi (As := [.int (m29.1 a1 5)]) (T := TX5) C (c_X5_behindPartner l D cy o hk30 h) kv_X10_137 hk30.1 (ct_E5 hk30) rfl rfl rfl (Nat.le_of_ble_eq_true rfl) ⟨rfl, rfl, Nat.le_of_ble_eq_true rfl, Nat.le_of_ble_eq_true rfl⟩ ⟨Nat.zero_le _, Nat.zero_le _⟩ dX10_execute_195 (fun r32 m31 h => ?_)
                      refine pf_X10_88 C dX10_execute_198 ka1 ?_
                      refine ct_mem (fun m33 em33 => ?_)
                      have h := h m33 em33
                      refine ct_iconst C dX10_execute_201 (0 : Int32) (by decide) ?_
                      exact ct_ireti C hr hlk dX10_execute_202 h
                    · have h := h.2 hc28
                      refine ct_lookup (off := 202) C dX10_execute_1 203 (by decide) ((lv_osw hc1 (by decide)).trans ((lv_osw hc4 (by decide)).trans ((lv_osw hc6 (by decide)).trans ((lv_osw hc10 (by decide)).trans ((lv_osw hc14 (by decide)).trans ((lv_osw hc18 (by decide)).trans ((lv_osw hc20 (by decide)).trans ((lv_osw hc23 (by decide)).trans ((lv_osw hc26 (by decide)).trans ((lv_osw hc28 (by decide)).trans rfl)))))))))) (by decide) ?_
                      refine ct_aload_n C dX10_execute_203 1 rfl rfl ?_
                      refine ct_callVv (As := []) (T := TX9) C (c_X9_closeBlock l D cy o ka1 h) kv_X10_134 ka1.1 (ct_E9 ka1) rfl rfl rfl (Nat.le_of_ble_eq_true rfl) ⟨rfl, rfl, Nat.le_of_ble_eq_true rfl, Nat.le_of_ble_eq_true rfl⟩ ⟨Nat.zero_le _, Nat.zero_le _⟩ dX10_execute_204 (fun m34 h => ?_)
                      refine ct_sub [1] [(1, .ref (o + a1))] rfl ?_
                      exact kb_X10_execute_207 C hr hlk  ka1 h
abbrev rm_X10_invariantsWouldHold : Room := { frames := 2, cells := 0, slots := 0, locals := 43 }
set_option maxHeartbeats 4000000 in
set_option maxRecDepth 100000 in
theorem kb_X10_invariantsWouldHold_2 {p : Program} {l : Launch} {e : Env} {s : State} {mth : MethodId} {args : Array Value} {below : List Frame} {meth : Method} {c : Code} {D : va_G} {cy : Nat → ClassId} {o : Nat} {Q : Int32 → ct_M → Prop} (C : ct_Cx p s mth c cX10_invariantsWouldHold 3 args RX10 D cy) (hr : meth.sig.returnType = (some .boolean)) (hlk : meth.locks = false) : ∀ (n : Nat) (v0 : Nat) (v1 : Nat) (v2 : Int32) (m : ct_M) (kv0 : ct_K 10 v0) (kv1 : ct_K 9 v1), wb_X10_invariantsWouldHold_2 Q n v0 v1 v2 m → ct_J p l e rm_X10_invariantsWouldHold s mth args below meth c 3 D cy o ct_NN 0 0 (MQ below (va_Qi Q (ct_P D cy o ct_NN) (fun q => o ≤ q)) args s 0 0 (fun q => o ≤ q)) m 2 [(0, .ref (o + v0)), (1, .ref (o + v1)), (2, .int v2)] [] := by
  intro n
  induction n with
  | zero => intro v0 v1 v2 m kv0 kv1 h; exact h.elim
  | succ n ih =>
    intro v0 v1 v2 m kv0 kv1 h
    unfold wb_X10_invariantsWouldHold_2 at h
    refine ct_iload_n C dX10_invariantsWouldHold_2 2 rfl rfl ?_
    refine ct_aload_n C dX10_invariantsWouldHold_3 0 rfl rfl ?_
    refine gf_X10_46 C dX10_invariantsWouldHold_4 kv0 ?_
    refine ct_icmp_ge C dX10_invariantsWouldHold_7 55 (by decide) (fun hc1 => ?_) (fun hc1 => ?_)
    · have h := h.1 hc1
      refine ct_iconst C dX10_invariantsWouldHold_55 (1 : Int32) (by decide) ?_
      exact ct_zret C hr hlk dX10_invariantsWouldHold_56 (by decide) h
    · have h := h.2 hc1
      refine ct_iload_n C dX10_invariantsWouldHold_10 2 rfl rfl ?_
      refine ct_iconst C dX10_invariantsWouldHold_11 (4 : Int32) (by decide) ?_
      refine ct_icmp_ge C dX10_invariantsWouldHold_12 55 (by decide) (fun hc2 => ?_) (fun hc2 => ?_)
      · have h := h.1 hc2
        refine ct_iconst C dX10_invariantsWouldHold_55 (1 : Int32) (by decide) ?_
        exact ct_zret C hr hlk dX10_invariantsWouldHold_56 (by decide) h
      · have h := h.2 hc2
        refine ct_aload_n C dX10_invariantsWouldHold_15 0 rfl rfl ?_
        refine ct_aload_n C dX10_invariantsWouldHold_16 1 rfl rfl ?_
        refine ct_aload_n C dX10_invariantsWouldHold_17 0 rfl rfl ?_
        refine gf_X10_24 C dX10_invariantsWouldHold_18 kv0 ?_
        have hk3 := ct_t10_4 kv0
        refine ct_iload_n C dX10_invariantsWouldHold_21 2 rfl rfl ?_
        refine ct_iald C dX10_invariantsWouldHold_22 hk3 h.1 ?_
        have h := h.2
        refine ct_callVi (As := [.ref (o + v1), .int (m.1 (v0 + 4) v2.toNatClampNeg)]) (T := TX10) C (c_X10_valueFor l D cy o kv0 kv1 h) kv_X10_140 kv0.1 (ct_E10 kv0) rfl rfl rfl (Nat.le_of_ble_eq_true rfl) ⟨rfl, rfl, Nat.le_of_ble_eq_true rfl, Nat.le_of_ble_eq_true rfl⟩ ⟨Nat.zero_le _, Nat.zero_le _⟩ dX10_invariantsWouldHold_23 (fun r5 m4 h => ?_)
        refine ct_aload_n C dX10_invariantsWouldHold_26 0 rfl rfl ?_
        refine ct_aload_n C dX10_invariantsWouldHold_27 1 rfl rfl ?_
        refine ct_aload_n C dX10_invariantsWouldHold_28 0 rfl rfl ?_
        refine gf_X10_27 C dX10_invariantsWouldHold_29 kv0 ?_
        have hk6 := ct_t10_5 kv0
        refine ct_iload_n C dX10_invariantsWouldHold_32 2 rfl rfl ?_
        refine ct_iald C dX10_invariantsWouldHold_33 hk6 h.1 ?_
        have h := h.2
        refine ct_callVi (As := [.ref (o + v1), .int (m4.1 (v0 + 5) v2.toNatClampNeg)]) (T := TX10) C (c_X10_valueFor l D cy o kv0 kv1 h) kv_X10_140 kv0.1 (ct_E10 kv0) rfl rfl rfl (Nat.le_of_ble_eq_true rfl) ⟨rfl, rfl, Nat.le_of_ble_eq_true rfl, Nat.le_of_ble_eq_true rfl⟩ ⟨Nat.zero_le _, Nat.zero_le _⟩ dX10_invariantsWouldHold_34 (fun r8 m7 h => ?_)
        refine ct_iadd C dX10_invariantsWouldHold_37 ?_
        refine ct_aload_n C dX10_invariantsWouldHold_38 0 rfl rfl ?_
        refine gf_X10_30 C dX10_invariantsWouldHold_39 kv0 ?_
        have hk9 := ct_t10_6 kv0
        refine ct_iload_n C dX10_invariantsWouldHold_42 2 rfl rfl ?_
        refine ct_iald C dX10_invariantsWouldHold_43 hk9 h.1 ?_
        have h := h.2
        refine ct_icmp_ge C dX10_invariantsWouldHold_44 49 (by decide) (fun hc10 => ?_) (fun hc10 => ?_)
        · have h := h.1 hc10
          obtain ⟨x11, ex11⟩ : ∃ z : Int32, z = v2 + (1 : Int32) := ⟨_, rfl⟩
          have h := h x11 ex11
          refine ct_iinc (k := 2) (v := x11) C dX10_invariantsWouldHold_49 [(2, .int x11), (0, .ref (o + v0)), (1, .ref (o + v1))] rfl (by rw [ex11]; rfl) (by decide) rfl ?_
          refine ct_goto C dX10_invariantsWouldHold_52 2 (by decide) ?_
          refine ct_sub [1, 2, 0] [(0, .ref (o + v0)), (1, .ref (o + v1)), (2, .int x11)] rfl ?_
          exact ih _ _ _ _ kv0 kv1 h
        · have h := h.2 hc10
          refine ct_iconst C dX10_invariantsWouldHold_47 (0 : Int32) (by decide) ?_
          exact ct_zret C hr hlk dX10_invariantsWouldHold_48 (by decide) h
set_option maxHeartbeats 4000000 in
set_option maxRecDepth 100000 in
theorem c_X10_invariantsWouldHold (l : Launch) (D : va_G) (cy : Nat → ClassId) (o : Nat) {a0 : Nat} {a1 : Nat} {Q : Int32 → ct_M → Prop} {m : ct_M} (ka0 : ct_K 10 a0) (ka1 : ct_K 9 a1) (h : wp_X10_invariantsWouldHold a0 a1 Q m) : Met l yX10_invariantsWouldHold (ct_ws yX10_invariantsWouldHold cX10_invariantsWouldHold 3 (some .boolean)) rm_X10_invariantsWouldHold (va_Pc [.ref (o + a0), .ref (o + a1)] (ct_P D cy o ct_NN m)) (va_Qi Q (ct_P D cy o ct_NN) (fun q => o ≤ q)) 0 0 (fun q => o ≤ q) := by
  refine ct_met l D cy o ct_NN m (by decide) (Nat.le_of_ble_eq_true rfl) (fun p e s mth args below meth c C hr hlk => ?_)
  refine ct_sub [0, 1] [(0, .ref (o + a0)), (1, .ref (o + a1))] rfl ?_
  unfold wp_X10_invariantsWouldHold at h
  refine ct_iconst C dX10_invariantsWouldHold_0 (0 : Int32) (by decide) ?_
  refine ct_istore_n C dX10_invariantsWouldHold_1 [(2, .int (0 : Int32)), (0, .ref (o + a0)), (1, .ref (o + a1))] rfl (by decide) rfl ?_
  refine ct_sub [1, 2, 0] [(0, .ref (o + a0)), (1, .ref (o + a1)), (2, .int (0 : Int32))] rfl ?_
  obtain ⟨n1, h⟩ := h
  exact kb_X10_invariantsWouldHold_2 C hr hlk  n1 _ _ _ _ ka0 ka1 h
abbrev rm_X10_store : Room := { frames := 2, cells := 0, slots := 0, locals := 41 }
set_option maxHeartbeats 4000000 in
set_option maxRecDepth 100000 in
theorem kb_X10_store_78 {p : Program} {l : Launch} {e : Env} {s : State} {mth : MethodId} {args : Array Value} {below : List Frame} {meth : Method} {c : Code} {D : va_G} {cy : Nat → ClassId} {o : Nat} {Q : ct_M → Prop} {K27 : Nat → Int32 → Int32 → ct_M → Prop} {v0 : Nat} {v1 : Int32} {v3 : Int32} {m : ct_M} (C : ct_Cx p s mth c cX10_store 4 args RX10 D cy) (hr : meth.sig.returnType = none) (hlk : meth.locks = false) (hK27 : ∀ (v0 : Nat) (v1 : Int32) (v3 : Int32) (m : ct_M), ct_K 10 v0 → K27 v0 v1 v3 m → ct_J p l e rm_X10_store s mth args below meth c 4 D cy o ct_NN 0 0 (MQ below (va_Qv Q (ct_P D cy o ct_NN) (fun q => o ≤ q)) args s 0 0 (fun q => o ≤ q)) m 27 [(0, .ref (o + v0)), (1, .int v1), (3, .int v3)] []) (kv0 : ct_K 10 v0) (h : wb_X10_store_78 K27 Q v0 v1 v3 m) : ct_J p l e rm_X10_store s mth args below meth c 4 D cy o ct_NN 0 0 (MQ below (va_Qv Q (ct_P D cy o ct_NN) (fun q => o ≤ q)) args s 0 0 (fun q => o ≤ q)) m 78 [(0, .ref (o + v0)), (1, .int v1), (3, .int v3)] [] := by
  unfold wb_X10_store_78 at h
  obtain ⟨x1, ex1⟩ : ∃ z : Int32, z = v3 + (1 : Int32) := ⟨_, rfl⟩
  have h := h x1 ex1
  refine ct_iinc (k := 2) (v := x1) C dX10_store_78 [(3, .int x1), (0, .ref (o + v0)), (1, .int v1)] rfl (by rw [ex1]; rfl) (by decide) rfl ?_
  refine ct_goto C dX10_store_81 27 (by decide) ?_
  refine ct_sub [1, 2, 0] [(0, .ref (o + v0)), (1, .int v1), (3, .int x1)] rfl ?_
  exact hK27 _ _ _ _ kv0 h
set_option maxHeartbeats 4000000 in
set_option maxRecDepth 100000 in
theorem kb_X10_store_27 {p : Program} {l : Launch} {e : Env} {s : State} {mth : MethodId} {args : Array Value} {below : List Frame} {meth : Method} {c : Code} {D : va_G} {cy : Nat → ClassId} {o : Nat} {Q : ct_M → Prop} (C : ct_Cx p s mth c cX10_store 4 args RX10 D cy) (hr : meth.sig.returnType = none) (hlk : meth.locks = false) : ∀ (n : Nat) (v0 : Nat) (v1 : Int32) (v3 : Int32) (m : ct_M) (kv0 : ct_K 10 v0), wb_X10_store_27 Q n v0 v1 v3 m → ct_J p l e rm_X10_store s mth args below meth c 4 D cy o ct_NN 0 0 (MQ below (va_Qv Q (ct_P D cy o ct_NN) (fun q => o ≤ q)) args s 0 0 (fun q => o ≤ q)) m 27 [(0, .ref (o + v0)), (1, .int v1), (3, .int v3)] [] := by
  intro n
  induction n with
  | zero => intro v0 v1 v3 m kv0 h; exact h.elim
  | succ n ih =>
    intro v0 v1 v3 m kv0 h
    unfold wb_X10_store_27 at h
    refine ct_iload_n C dX10_store_27 2 rfl rfl ?_
    refine ct_aload_n C dX10_store_28 0 rfl rfl ?_
    refine gf_X10_42 C dX10_store_29 kv0 ?_
    refine ct_icmp_ge C dX10_store_32 84 (by decide) (fun hc1 => ?_) (fun hc1 => ?_)
    · have h := h.1 hc1
      exact ct_vret C hr hlk dX10_store_84 h
    · have h := h.2 hc1
      refine ct_iload_n C dX10_store_35 2 rfl rfl ?_
      refine ct_iconst C dX10_store_36 (3 : Int32) (by decide) ?_
      refine ct_icmp_ge C dX10_store_37 84 (by decide) (fun hc2 => ?_) (fun hc2 => ?_)
      · have h := h.1 hc2
        exact ct_vret C hr hlk dX10_store_84 h
      · have h := h.2 hc2
        refine ct_aload_n C dX10_store_40 0 rfl rfl ?_
        refine gf_X10_20 C dX10_store_41 kv0 ?_
        have hk3 := ct_t10_2 kv0
        refine ct_iload_n C dX10_store_44 2 rfl rfl ?_
        refine ct_aald19 C dX10_store_45 hk3 h.1 ?_
        have hk4 := ct_e19 hk3 (ct_vin h.1)
        have h := h.2
        refine gf_X10_59 C dX10_store_46 hk4 ?_
        refine ct_iconst C dX10_store_49 (1 : Int32) (by decide) ?_
        refine ct_icmp_ne C dX10_store_50 78 (by decide) (fun hc5 => ?_) (fun hc5 => ?_)
        · have h := h.1 hc5
          refine ct_sub [0, 1, 2] [(0, .ref (o + v0)), (1, .int v1), (3, .int v3)] rfl ?_
          exact kb_X10_store_78 C hr hlk ih kv0 h
        · have h := h.2 hc5
          refine ct_aload_n C dX10_store_53 0 rfl rfl ?_
          refine gf_X10_20 C dX10_store_54 kv0 ?_
          refine ct_iload_n C dX10_store_57 2 rfl rfl ?_
          refine ct_aald19 C dX10_store_58 hk3 h.1 ?_
          have h := h.2
          refine gf_X10_78 C dX10_store_59 hk4 ?_
          have hk6 := ct_t9_6 hk4
          refine ct_iload_n C dX10_store_62 1 rfl rfl ?_
          refine ct_callVi (As := [.int v1]) (T := TX0) C (c_X0_holds l D cy o hk6 h) kv_X10_70 hk6.1 (ct_E0 hk6) rfl rfl rfl (Nat.le_of_ble_eq_true rfl) ⟨rfl, rfl, Nat.le_of_ble_eq_true rfl, Nat.le_of_ble_eq_true rfl⟩ ⟨Nat.zero_le _, Nat.zero_le _⟩ dX10_store_63 (fun r8 m7 h => ?_)
          refine ct_if_eq C dX10_store_66 78 (by decide) (fun hc9 => ?_) (fun hc9 => ?_)
          · have h := h.1 hc9
            refine ct_sub [0, 1, 2] [(0, .ref (o + v0)), (1, .int v1), (3, .int v3)] rfl ?_
            exact kb_X10_store_78 C hr hlk ih kv0 h
          · have h := h.2 hc9
            refine ct_aload_n C dX10_store_69 0 rfl rfl ?_
            refine gf_X10_20 C dX10_store_70 kv0 ?_
            refine ct_iload_n C dX10_store_73 2 rfl rfl ?_
            refine ct_aald19 C dX10_store_74 hk3 h.1 ?_
            have h := h.2
            refine ct_callVv (As := []) (T := TX9) C (c_X9_startAgain l D cy o hk4 h) kv_X10_81 hk4.1 (ct_E9 hk4) rfl rfl rfl (Nat.le_of_ble_eq_true rfl) ⟨rfl, rfl, Nat.le_of_ble_eq_true rfl, Nat.le_of_ble_eq_true rfl⟩ ⟨Nat.zero_le _, Nat.zero_le _⟩ dX10_store_75 (fun m10 h => ?_)
            refine ct_sub [0, 1, 2] [(0, .ref (o + v0)), (1, .int v1), (3, .int v3)] rfl ?_
            exact kb_X10_store_78 C hr hlk ih kv0 h
set_option maxHeartbeats 4000000 in
set_option maxRecDepth 100000 in
theorem c_X10_store (l : Launch) (D : va_G) (cy : Nat → ClassId) (o : Nat) {a0 : Nat} {p1 : Int32} {p2 : Int32} {Q : ct_M → Prop} {m : ct_M} (ka0 : ct_K 10 a0) (h : wp_X10_store a0 p1 p2 Q m) : Met l yX10_store (ct_ws yX10_store cX10_store 4 none) rm_X10_store (va_Pc [.ref (o + a0), .int p1, .int p2] (ct_P D cy o ct_NN m)) (va_Qv Q (ct_P D cy o ct_NN) (fun q => o ≤ q)) 0 0 (fun q => o ≤ q) := by
  refine ct_met l D cy o ct_NN m (by decide) (Nat.le_of_ble_eq_true rfl) (fun p e s mth args below meth c C hr hlk => ?_)
  refine ct_sub [0, 1, 2] [(0, .ref (o + a0)), (1, .int p1), (2, .int p2)] rfl ?_
  unfold wp_X10_store at h
  refine ct_iload_n C dX10_store_0 1 rfl rfl ?_
  refine ct_callNi (As := [.int p1]) C (c_X11_isCell l D cy o  h) kv_X10_62 rfl rfl (Nat.le_of_ble_eq_true rfl) ⟨rfl, rfl, Nat.le_of_ble_eq_true rfl, Nat.le_of_ble_eq_true rfl⟩ ⟨Nat.zero_le _, Nat.zero_le _⟩ dX10_store_1 (fun r2 m1 h => ?_)
  refine ct_if_ne C dX10_store_4 8 (by decide) (fun hc3 => ?_) (fun hc3 => ?_)
  · have h := h.1 hc3
    refine ct_aload_n C dX10_store_8 0 rfl rfl ?_
    refine gf_X10_9 C dX10_store_9 ka0 ?_
    have hk4 := ct_t10_0 ka0
    refine ct_iload_n C dX10_store_12 1 rfl rfl ?_
    refine ct_iload_n C dX10_store_13 2 rfl rfl ?_
    refine ct_iast C dX10_store_14 hk4 h.1 ?_
    have h := h.2
    refine ct_mem (fun m5 em5 => ?_)
    have h := h m5 em5
    refine ct_aload_n C dX10_store_15 0 rfl rfl ?_
    refine gf_X10_15 C dX10_store_16 ka0 ?_
    have hk6 := ct_t10_1 ka0
    refine ct_iload_n C dX10_store_19 1 rfl rfl ?_
    refine ct_dup2 C dX10_store_20 rfl rfl ?_
    refine ct_iald C dX10_store_21 hk6 h.1 ?_
    have h := h.2
    refine ct_iconst C dX10_store_22 (1 : Int32) (by decide) ?_
    refine ct_iadd C dX10_store_23 ?_
    refine ct_iast C dX10_store_24 hk6 h.1 ?_
    have h := h.2
    refine ct_mem (fun m7 em7 => ?_)
    have h := h m7 em7
    refine ct_iconst C dX10_store_25 (0 : Int32) (by decide) ?_
    refine ct_istore_n C dX10_store_26 [(3, .int (0 : Int32)), (0, .ref (o + a0)), (1, .int p1), (2, .int p2)] rfl (by decide) rfl ?_
    refine ct_sub [1, 2, 0] [(0, .ref (o + a0)), (1, .int p1), (3, .int (0 : Int32))] rfl ?_
    obtain ⟨n8, h⟩ := h
    exact kb_X10_store_27 C hr hlk  n8 _ _ _ _ ka0 h
  · have h := h.2 hc3
    exact ct_vret C hr hlk dX10_store_7 h
abbrev rm_X10_commit : Room := { frames := 3, cells := 0, slots := 0, locals := 65 }
set_option maxHeartbeats 4000000 in
set_option maxRecDepth 100000 in
theorem kb_X10_commit_91 {p : Program} {l : Launch} {e : Env} {s : State} {mth : MethodId} {args : Array Value} {below : List Frame} {meth : Method} {c : Code} {D : va_G} {cy : Nat → ClassId} {o : Nat} {Q : Int32 → ct_M → Prop} {s0 : Int32} {s1 : Nat} {m : ct_M} (C : ct_Cx p s mth c cX10_commit 3 args RX10 D cy) (hr : meth.sig.returnType = (some .int)) (hlk : meth.locks = false) (ks1 : ct_K 9 s1) (h : wb_X10_commit_91 Q s0 s1 m) : ct_J p l e rm_X10_commit s mth args below meth c 3 D cy o ct_NN 0 0 (MQ below (va_Qi Q (ct_P D cy o ct_NN) (fun q => o ≤ q)) args s 0 0 (fun q => o ≤ q)) m 91 [] [.int s0, .ref (o + s1)] := by
  unfold wb_X10_commit_91 at h
  refine ct_callVv (As := [.int s0]) (T := TX9) C (c_X9_become l D cy o ks1 h) kv_X10_55 ks1.1 (ct_E9 ks1) rfl rfl rfl (Nat.le_of_ble_eq_true rfl) ⟨rfl, rfl, Nat.le_of_ble_eq_true rfl, Nat.le_of_ble_eq_true rfl⟩ ⟨Nat.zero_le _, Nat.zero_le _⟩ dX10_commit_91 (fun m1 h => ?_)
  refine ct_iconst C dX10_commit_94 (1 : Int32) (by decide) ?_
  exact ct_ireti C hr hlk dX10_commit_95 h
set_option maxHeartbeats 4000000 in
set_option maxRecDepth 100000 in
theorem kb_X10_commit_62 {p : Program} {l : Launch} {e : Env} {s : State} {mth : MethodId} {args : Array Value} {below : List Frame} {meth : Method} {c : Code} {D : va_G} {cy : Nat → ClassId} {o : Nat} {Q : Int32 → ct_M → Prop} {K31 : Nat → Nat → Int32 → ct_M → Prop} {v0 : Nat} {v1 : Nat} {v2 : Int32} {m : ct_M} (C : ct_Cx p s mth c cX10_commit 3 args RX10 D cy) (hr : meth.sig.returnType = (some .int)) (hlk : meth.locks = false) (hK31 : ∀ (v0 : Nat) (v1 : Nat) (v2 : Int32) (m : ct_M), ct_K 10 v0 → ct_K 9 v1 → K31 v0 v1 v2 m → ct_J p l e rm_X10_commit s mth args below meth c 3 D cy o ct_NN 0 0 (MQ below (va_Qi Q (ct_P D cy o ct_NN) (fun q => o ≤ q)) args s 0 0 (fun q => o ≤ q)) m 31 [(0, .ref (o + v0)), (1, .ref (o + v1)), (2, .int v2)] []) (kv0 : ct_K 10 v0) (kv1 : ct_K 9 v1) (h : wb_X10_commit_62 K31 Q v0 v1 v2 m) : ct_J p l e rm_X10_commit s mth args below meth c 3 D cy o ct_NN 0 0 (MQ below (va_Qi Q (ct_P D cy o ct_NN) (fun q => o ≤ q)) args s 0 0 (fun q => o ≤ q)) m 62 [(0, .ref (o + v0)), (1, .ref (o + v1)), (2, .int v2)] [] := by
  unfold wb_X10_commit_62 at h
  obtain ⟨x1, ex1⟩ : ∃ z : Int32, z = v2 + (1 : Int32) := ⟨_, rfl⟩
  have h := h x1 ex1
  refine ct_iinc (k := 2) (v := x1) C dX10_commit_62 [(2, .int x1), (0, .ref (o + v0)), (1, .ref (o + v1))] rfl (by rw [ex1]; rfl) (by decide) rfl ?_
  refine ct_goto C dX10_commit_65 31 (by decide) ?_
  refine ct_sub [1, 2, 0] [(0, .ref (o + v0)), (1, .ref (o + v1)), (2, .int x1)] rfl ?_
  exact hK31 _ _ _ _ kv0 kv1 h
set_option maxHeartbeats 4000000 in
set_option maxRecDepth 100000 in
theorem kb_X10_commit_31 {p : Program} {l : Launch} {e : Env} {s : State} {mth : MethodId} {args : Array Value} {below : List Frame} {meth : Method} {c : Code} {D : va_G} {cy : Nat → ClassId} {o : Nat} {Q : Int32 → ct_M → Prop} (C : ct_Cx p s mth c cX10_commit 3 args RX10 D cy) (hr : meth.sig.returnType = (some .int)) (hlk : meth.locks = false) : ∀ (n : Nat) (v0 : Nat) (v1 : Nat) (v2 : Int32) (m : ct_M) (kv0 : ct_K 10 v0) (kv1 : ct_K 9 v1), wb_X10_commit_31 Q n v0 v1 v2 m → ct_J p l e rm_X10_commit s mth args below meth c 3 D cy o ct_NN 0 0 (MQ below (va_Qi Q (ct_P D cy o ct_NN) (fun q => o ≤ q)) args s 0 0 (fun q => o ≤ q)) m 31 [(0, .ref (o + v0)), (1, .ref (o + v1)), (2, .int v2)] [] := by
  intro n
  induction n with
  | zero => intro v0 v1 v2 m kv0 kv1 h; exact h.elim
  | succ n ih =>
    intro v0 v1 v2 m kv0 kv1 h
    unfold wb_X10_commit_31 at h
    refine ct_iload_n C dX10_commit_31 2 rfl rfl ?_
    refine ct_bipush C dX10_commit_32 (6 : Int32) (by decide) ?_
    refine ct_icmp_ge C dX10_commit_34 68 (by decide) (fun hc1 => ?_) (fun hc1 => ?_)
    · have h := h.1 hc1
      refine ct_aload_n C dX10_commit_68 1 rfl rfl ?_
      refine ct_dup C dX10_commit_69 rfl ?_
      refine gf_X10_49 C dX10_commit_70 kv1 ?_
      refine ct_iconst C dX10_commit_73 (1 : Int32) (by decide) ?_
      refine ct_isub C dX10_commit_74 ?_
      refine pf_X10_49 C dX10_commit_75 kv1 ?_
      refine ct_mem (fun m2 em2 => ?_)
      have h := h m2 em2
      refine ct_aload_n C dX10_commit_78 1 rfl rfl ?_
      refine ct_aload_n C dX10_commit_79 1 rfl rfl ?_
      refine gf_X10_49 C dX10_commit_80 kv1 ?_
      refine ct_if_le C dX10_commit_83 90 (by decide) (fun hc3 => ?_) (fun hc3 => ?_)
      · have h := h.1 hc3
        refine ct_iconst C dX10_commit_90 (2 : Int32) (by decide) ?_
        refine ct_sub [] [] rfl ?_
        exact kb_X10_commit_91 C hr hlk  kv1 h
      · have h := h.2 hc3
        refine ct_iconst C dX10_commit_86 (0 : Int32) (by decide) ?_
        refine ct_goto C dX10_commit_87 91 (by decide) ?_
        refine ct_sub [] [] rfl ?_
        exact kb_X10_commit_91 C hr hlk  kv1 h
    · have h := h.2 hc1
      refine ct_aload_n C dX10_commit_37 1 rfl rfl ?_
      refine gf_X10_66 C dX10_commit_38 kv1 ?_
      have hk4 := ct_t9_7 kv1
      refine ct_iload_n C dX10_commit_41 2 rfl rfl ?_
      refine ct_callVi (As := [.int v2]) (T := TX0) C (c_X0_holds l D cy o hk4 h) kv_X10_70 hk4.1 (ct_E0 hk4) rfl rfl rfl (Nat.le_of_ble_eq_true rfl) ⟨rfl, rfl, Nat.le_of_ble_eq_true rfl, Nat.le_of_ble_eq_true rfl⟩ ⟨Nat.zero_le _, Nat.zero_le _⟩ dX10_commit_42 (fun r6 m5 h => ?_)
      refine ct_if_eq C dX10_commit_45 62 (by decide) (fun hc7 => ?_) (fun hc7 => ?_)
      · have h := h.1 hc7
        refine ct_sub [0, 1, 2] [(0, .ref (o + v0)), (1, .ref (o + v1)), (2, .int v2)] rfl ?_
        exact kb_X10_commit_62 C hr hlk ih kv0 kv1 h
      · have h := h.2 hc7
        refine ct_aload_n C dX10_commit_48 0 rfl rfl ?_
        refine ct_iload_n C dX10_commit_49 2 rfl rfl ?_
        refine ct_aload_n C dX10_commit_50 1 rfl rfl ?_
        refine gf_X10_66 C dX10_commit_51 kv1 ?_
        refine gf_X10_75 C dX10_commit_54 hk4 ?_
        have hk8 := ct_t0_1 hk4
        refine ct_iload_n C dX10_commit_57 2 rfl rfl ?_
        refine ct_iald C dX10_commit_58 hk8 h.1 ?_
        have h := h.2
        refine ct_callVv (As := [.int v2, .int (m5.1 ((v1 + 3) + 1) v2.toNatClampNeg)]) (T := TX10) C (c_X10_store l D cy o kv0 h) kv_X10_168 kv0.1 (ct_E10 kv0) rfl rfl rfl (Nat.le_of_ble_eq_true rfl) ⟨rfl, rfl, Nat.le_of_ble_eq_true rfl, Nat.le_of_ble_eq_true rfl⟩ ⟨Nat.zero_le _, Nat.zero_le _⟩ dX10_commit_59 (fun m9 h => ?_)
        refine ct_sub [0, 1, 2] [(0, .ref (o + v0)), (1, .ref (o + v1)), (2, .int v2)] rfl ?_
        exact kb_X10_commit_62 C hr hlk ih kv0 kv1 h
set_option maxHeartbeats 4000000 in
set_option maxRecDepth 100000 in
theorem c_X10_commit (l : Launch) (D : va_G) (cy : Nat → ClassId) (o : Nat) {a0 : Nat} {a1 : Nat} {Q : Int32 → ct_M → Prop} {m : ct_M} (ka0 : ct_K 10 a0) (ka1 : ct_K 9 a1) (h : wp_X10_commit a0 a1 Q m) : Met l yX10_commit (ct_ws yX10_commit cX10_commit 3 (some .int)) rm_X10_commit (va_Pc [.ref (o + a0), .ref (o + a1)] (ct_P D cy o ct_NN m)) (va_Qi Q (ct_P D cy o ct_NN) (fun q => o ≤ q)) 0 0 (fun q => o ≤ q) := by
  refine ct_met l D cy o ct_NN m (by decide) (Nat.le_of_ble_eq_true rfl) (fun p e s mth args below meth c C hr hlk => ?_)
  refine ct_sub [0, 1] [(0, .ref (o + a0)), (1, .ref (o + a1))] rfl ?_
  unfold wp_X10_commit at h
  refine ct_aload_n C dX10_commit_0 0 rfl rfl ?_
  refine ct_aload_n C dX10_commit_1 1 rfl rfl ?_
  refine ct_callVi (As := [.ref (o + a1)]) (T := TX10) C (c_X10_readsAreCurrent l D cy o ka0 ka1 h) kv_X10_161 ka0.1 (ct_E10 ka0) rfl rfl rfl (Nat.le_of_ble_eq_true rfl) ⟨rfl, rfl, Nat.le_of_ble_eq_true rfl, Nat.le_of_ble_eq_true rfl⟩ ⟨Nat.zero_le _, Nat.zero_le _⟩ dX10_commit_2 (fun r2 m1 h => ?_)
  refine ct_if_ne C dX10_commit_5 14 (by decide) (fun hc3 => ?_) (fun hc3 => ?_)
  · have h := h.1 hc3
    refine ct_aload_n C dX10_commit_14 0 rfl rfl ?_
    refine ct_aload_n C dX10_commit_15 1 rfl rfl ?_
    refine ct_callVi (As := [.ref (o + a1)]) (T := TX10) C (c_X10_invariantsWouldHold l D cy o ka0 ka1 h) kv_X10_165 ka0.1 (ct_E10 ka0) rfl rfl rfl (Nat.le_of_ble_eq_true rfl) ⟨rfl, rfl, Nat.le_of_ble_eq_true rfl, Nat.le_of_ble_eq_true rfl⟩ ⟨Nat.zero_le _, Nat.zero_le _⟩ dX10_commit_16 (fun r5 m4 h => ?_)
    refine ct_if_ne C dX10_commit_19 29 (by decide) (fun hc6 => ?_) (fun hc6 => ?_)
    · have h := h.1 hc6
      refine ct_iconst C dX10_commit_29 (0 : Int32) (by decide) ?_
      refine ct_istore_n C dX10_commit_30 [(2, .int (0 : Int32)), (0, .ref (o + a0)), (1, .ref (o + a1))] rfl (by decide) rfl ?_
      refine ct_sub [1, 2, 0] [(0, .ref (o + a0)), (1, .ref (o + a1)), (2, .int (0 : Int32))] rfl ?_
      obtain ⟨n7, h⟩ := h
      exact kb_X10_commit_31 C hr hlk  n7 _ _ _ _ ka0 ka1 h
    · have h := h.2 hc6
      refine ct_aload_n C dX10_commit_22 1 rfl rfl ?_
      refine ct_iconst C dX10_commit_23 (3 : Int32) (by decide) ?_
      refine ct_callVv (As := [.int (3 : Int32)]) (T := TX9) C (c_X9_become l D cy o ka1 h) kv_X10_55 ka1.1 (ct_E9 ka1) rfl rfl rfl (Nat.le_of_ble_eq_true rfl) ⟨rfl, rfl, Nat.le_of_ble_eq_true rfl, Nat.le_of_ble_eq_true rfl⟩ ⟨Nat.zero_le _, Nat.zero_le _⟩ dX10_commit_24 (fun m8 h => ?_)
      refine ct_iconst C dX10_commit_27 (4 : Int32) (by decide) ?_
      exact ct_ireti C hr hlk dX10_commit_28 h
  · have h := h.2 hc3
    refine ct_aload_n C dX10_commit_8 1 rfl rfl ?_
    refine ct_callVv (As := []) (T := TX9) C (c_X9_startAgain l D cy o ka1 h) kv_X10_81 ka1.1 (ct_E9 ka1) rfl rfl rfl (Nat.le_of_ble_eq_true rfl) ⟨rfl, rfl, Nat.le_of_ble_eq_true rfl, Nat.le_of_ble_eq_true rfl⟩ ⟨Nat.zero_le _, Nat.zero_le _⟩ dX10_commit_9 (fun m9 h => ?_)
    refine ct_iconst C dX10_commit_12 (2 : Int32) (by decide) ?_
    exact ct_ireti C hr hlk dX10_commit_13 h
