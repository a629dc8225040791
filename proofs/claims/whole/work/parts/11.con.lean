abbrev rm_X8_add : Room := { frames := 0, cells := 0, slots := 0, locals := 0 }
set_option maxHeartbeats 4000000 in
set_option maxRecDepth 100000 in
theorem c_X8_add (l : Launch) (D : va_G) (cy : Nat → ClassId) (o : Nat) {a0 : Nat} {p1 : Int32} {Q : Int32 → ct_M → Prop} {m : ct_M} (ka0 : ct_K 8 a0) (h : wp_X8_add a0 p1 Q m) : Met l yX8_add (ct_ws yX8_add cX8_add 2 (some .boolean)) rm_X8_add (va_Pc [.ref (o + a0), .int p1] (ct_P D cy o ct_NN m)) (va_Qi Q (ct_P D cy o ct_NN) (fun q => o ≤ q)) 0 0 (fun q => o ≤ q) := by
  refine ct_met l D cy o ct_NN m (by decide) (Nat.le_of_ble_eq_true rfl) (fun p e s mth args below meth c C hr hlk => ?_)
  refine ct_sub [0, 1] [(0, .ref (o + a0)), (1, .int p1)] rfl ?_
  unfold wp_X8_add at h
  refine ct_aload_n C dX8_add_0 0 rfl rfl ?_
  refine gf_X8_22 C dX8_add_1 ka0 ?_
  refine ct_bipush C dX8_add_4 (60 : Int32) (by decide) ?_
  refine ct_icmp_lt C dX8_add_6 11 (by decide) (fun hc1 => ?_) (fun hc1 => ?_)
  · have h := h.1 hc1
    refine ct_aload_n C dX8_add_11 0 rfl rfl ?_
    refine gf_X8_9 C dX8_add_12 ka0 ?_
    have hk2 := ct_t8_0 ka0
    refine ct_aload_n C dX8_add_15 0 rfl rfl ?_
    refine gf_X8_22 C dX8_add_16 ka0 ?_
    refine ct_iload_n C dX8_add_19 1 rfl rfl ?_
    refine ct_cast C dX8_add_20 hk2 h.1 ?_
    have h := h.2
    refine ct_mem (fun m3 em3 => ?_)
    have h := h m3 em3
    refine ct_aload_n C dX8_add_21 0 rfl rfl ?_
    refine ct_dup C dX8_add_22 rfl ?_
    refine gf_X8_22 C dX8_add_23 ka0 ?_
    refine ct_iconst C dX8_add_26 (1 : Int32) (by decide) ?_
    refine ct_iadd C dX8_add_27 ?_
    refine pf_X8_22 C dX8_add_28 ka0 ?_
    refine ct_mem (fun m4 em4 => ?_)
    have h := h m4 em4
    refine ct_iconst C dX8_add_31 (1 : Int32) (by decide) ?_
    exact ct_zret C hr hlk dX8_add_32 (by decide) h
  · have h := h.2 hc1
    refine ct_iconst C dX8_add_9 (0 : Int32) (by decide) ?_
    exact ct_zret C hr hlk dX8_add_10 (by decide) h
abbrev rm_X11_append : Room := { frames := 1, cells := 0, slots := 0, locals := 21 }
set_option maxHeartbeats 4000000 in
set_option maxRecDepth 100000 in
theorem c_X11_append (l : Launch) (D : va_G) (cy : Nat → ClassId) (o : Nat) {a0 : Nat} {p1 : Int32} {Q : Int32 → ct_M → Prop} {m : ct_M} (ka0 : ct_K 11 a0) (h : wp_X11_append a0 p1 Q m) : Met l yX11_append (ct_ws yX11_append cX11_append 2 (some .int)) rm_X11_append (va_Pc [.ref (o + a0), .int p1] (ct_P D cy o ct_NN m)) (va_Qi Q (ct_P D cy o ct_NN) (fun q => o ≤ q)) 0 0 (fun q => o ≤ q) := by
  refine ct_met l D cy o ct_NN m (by decide) (Nat.le_of_ble_eq_true rfl) (fun p e s mth args below meth c C hr hlk => ?_)
  refine ct_sub [0, 1] [(0, .ref (o + a0)), (1, .int p1)] rfl ?_
  unfold wp_X11_append at h
  refine ct_iload_n C dX11_append_0 1 rfl rfl ?_
  refine ct_if_lt C dX11_append_1 11 (by decide) (fun hc1 => ?_) (fun hc1 => ?_)
  · have h := h.1 hc1
    refine ct_bipush C dX11_append_11 (-2 : Int32) (by decide) ?_
    exact ct_ireti C hr hlk dX11_append_13 h
  · have h := h.2 hc1
    refine ct_iload_n C dX11_append_4 1 rfl rfl ?_
    refine ct_sipush C dX11_append_5 (255 : Int32) (by decide) ?_
    refine ct_icmp_le C dX11_append_8 14 (by decide) (fun hc2 => ?_) (fun hc2 => ?_)
    · have h := h.1 hc2
      refine ct_aload_n C dX11_append_14 0 rfl rfl ?_
      refine gf_X11_10 C dX11_append_15 ka0 ?_
      have hk3 := ct_t11_0 ka0
      refine ct_iload_n C dX11_append_18 1 rfl rfl ?_
      refine ct_i2c C dX11_append_19 ?_
      refine ct_callVi (As := [.int ((p1.toUInt32 % 65536).toInt32)]) (T := TX8) C (c_X8_add l D cy o hk3 h) kv_X11_68 hk3.1 (ct_E8 hk3) rfl rfl rfl (Nat.le_of_ble_eq_true rfl) ⟨rfl, rfl, Nat.le_of_ble_eq_true rfl, Nat.le_of_ble_eq_true rfl⟩ ⟨Nat.zero_le _, Nat.zero_le _⟩ dX11_append_20 (fun r5 m4 h => ?_)
      refine ct_if_eq C dX11_append_23 36 (by decide) (fun hc6 => ?_) (fun hc6 => ?_)
      · have h := h.1 hc6
        refine ct_bipush C dX11_append_36 (-4 : Int32) (by decide) ?_
        exact ct_ireti C hr hlk dX11_append_38 h
      · have h := h.2 hc6
        refine ct_aload_n C dX11_append_26 0 rfl rfl ?_
        refine gf_X11_10 C dX11_append_27 ka0 ?_
        refine gf_X11_72 C dX11_append_30 hk3 ?_
        refine ct_goto C dX11_append_33 38 (by decide) ?_
        exact ct_ireti C hr hlk dX11_append_38 h
    · have h := h.2 hc2
      refine ct_bipush C dX11_append_11 (-2 : Int32) (by decide) ?_
      exact ct_ireti C hr hlk dX11_append_13 h
abbrev rm_X11_clearText : Room := { frames := 0, cells := 0, slots := 0, locals := 0 }
set_option maxHeartbeats 4000000 in
set_option maxRecDepth 100000 in
theorem c_X11_clearText (l : Launch) (D : va_G) (cy : Nat → ClassId) (o : Nat) {a0 : Nat} {Q : Int32 → ct_M → Prop} {m : ct_M} (ka0 : ct_K 11 a0) (h : wp_X11_clearText a0 Q m) : Met l yX11_clearText (ct_ws yX11_clearText cX11_clearText 2 (some .int)) rm_X11_clearText (va_Pc [.ref (o + a0)] (ct_P D cy o ct_NN m)) (va_Qi Q (ct_P D cy o ct_NN) (fun q => o ≤ q)) 0 0 (fun q => o ≤ q) := by
  refine ct_met l D cy o ct_NN m (by decide) (Nat.le_of_ble_eq_true rfl) (fun p e s mth args below meth c C hr hlk => ?_)
  refine ct_sub [0] [(0, .ref (o + a0))] rfl ?_
  unfold wp_X11_clearText at h
  refine ct_aload_n C dX11_clearText_0 0 rfl rfl ?_
  refine gf_X11_10 C dX11_clearText_1 ka0 ?_
  have hk1 := ct_t11_0 ka0
  refine gf_X11_72 C dX11_clearText_4 hk1 ?_
  refine ct_topi (fun x2 ex2 => ?_)
  have h := h x2 ex2
  refine ct_istore_n C dX11_clearText_7 [(1, .int x2), (0, .ref (o + a0))] rfl (by decide) rfl ?_
  refine ct_aload_n C dX11_clearText_8 1 rfl rfl ?_
  refine gf_X11_10 C dX11_clearText_9 ka0 ?_
  refine ct_iconst C dX11_clearText_12 (0 : Int32) (by decide) ?_
  refine pf_X11_72 C dX11_clearText_13 hk1 ?_
  refine ct_mem (fun m3 em3 => ?_)
  have h := h m3 em3
  refine ct_iload_n C dX11_clearText_16 0 rfl rfl ?_
  exact ct_ireti C hr hlk dX11_clearText_17 h
abbrev rm_X7_begin : Room := { frames := 0, cells := 0, slots := 0, locals := 0 }
set_option maxHeartbeats 4000000 in
set_option maxRecDepth 100000 in
theorem c_X7_begin (l : Launch) (D : va_G) (cy : Nat → ClassId) (o : Nat) {a0 : Nat} {Q : ct_M → Prop} {m : ct_M} (ka0 : ct_K 7 a0) (h : wp_X7_begin a0 Q m) : Met l yX7_begin (ct_ws yX7_begin cX7_begin 1 none) rm_X7_begin (va_Pc [.ref (o + a0)] (ct_P D cy o ct_NN m)) (va_Qv Q (ct_P D cy o ct_NN) (fun q => o ≤ q)) 0 0 (fun q => o ≤ q) := by
  refine ct_met l D cy o ct_NN m (by decide) (Nat.le_of_ble_eq_true rfl) (fun p e s mth args below meth c C hr hlk => ?_)
  refine ct_sub [0] [(0, .ref (o + a0))] rfl ?_
  unfold wp_X7_begin at h
  refine ct_aload_n C dX7_begin_0 0 rfl rfl ?_
  refine ct_iconst C dX7_begin_1 (0 : Int32) (by decide) ?_
  refine pf_X7_15 C dX7_begin_2 ka0 ?_
  refine ct_mem (fun m1 em1 => ?_)
  have h := h m1 em1
  refine ct_aload_n C dX7_begin_5 0 rfl rfl ?_
  refine ct_iconst C dX7_begin_6 (0 : Int32) (by decide) ?_
  refine pf_X7_19 C dX7_begin_7 ka0 ?_
  refine ct_mem (fun m2 em2 => ?_)
  have h := h m2 em2
  refine ct_aload_n C dX7_begin_10 0 rfl rfl ?_
  refine ct_iconst C dX7_begin_11 (0 : Int32) (by decide) ?_
  refine pf_X7_22 C dX7_begin_12 ka0 ?_
  refine ct_mem (fun m3 em3 => ?_)
  have h := h m3 em3
  refine ct_aload_n C dX7_begin_15 0 rfl rfl ?_
  refine ct_iconst C dX7_begin_16 (0 : Int32) (by decide) ?_
  refine pf_X7_25 C dX7_begin_17 ka0 ?_
  refine ct_mem (fun m4 em4 => ?_)
  have h := h m4 em4
  exact ct_vret C hr hlk dX7_begin_20 h
abbrev rm_X7_wantsCell : Room := { frames := 0, cells := 0, slots := 0, locals := 0 }
set_option maxHeartbeats 4000000 in
set_option maxRecDepth 100000 in
theorem kb_X7_wantsCell_12 {p : Program} {l : Launch} {e : Env} {s : State} {mth : MethodId} {args : Array Value} {below : List Frame} {meth : Method} {c : Code} {D : va_G} {cy : Nat → ClassId} {o : Nat} {Q : Int32 → ct_M → Prop} {m : ct_M} (C : ct_Cx p s mth c cX7_wantsCell 1 args RX7 D cy) (hr : meth.sig.returnType = (some .boolean)) (hlk : meth.locks = false) (h : wb_X7_wantsCell_12 Q  m) : ct_J p l e rm_X7_wantsCell s mth args below meth c 1 D cy o ct_NN 0 0 (MQ below (va_Qi Q (ct_P D cy o ct_NN) (fun q => o ≤ q)) args s 0 0 (fun q => o ≤ q)) m 12 [] [] := by
  unfold wb_X7_wantsCell_12 at h
  refine ct_iconst C dX7_wantsCell_12 (1 : Int32) (by decide) ?_
  refine ct_goto C dX7_wantsCell_13 17 (by decide) ?_
  exact ct_zret C hr hlk dX7_wantsCell_17 (by decide) h
set_option maxHeartbeats 4000000 in
set_option maxRecDepth 100000 in
theorem c_X7_wantsCell (l : Launch) (D : va_G) (cy : Nat → ClassId) (o : Nat) {p0 : Int32} {Q : Int32 → ct_M → Prop} {m : ct_M} (h : wp_X7_wantsCell p0 Q m) : Met l yX7_wantsCell (ct_ws yX7_wantsCell cX7_wantsCell 1 (some .boolean)) rm_X7_wantsCell (va_Pc [.int p0] (ct_P D cy o ct_NN m)) (va_Qi Q (ct_P D cy o ct_NN) (fun q => o ≤ q)) 0 0 (fun q => o ≤ q) := by
  refine ct_met l D cy o ct_NN m (by decide) (Nat.le_of_ble_eq_true rfl) (fun p e s mth args below meth c C hr hlk => ?_)
  refine ct_sub [0] [(0, .int p0)] rfl ?_
  unfold wp_X7_wantsCell at h
  refine ct_iload_n C dX7_wantsCell_0 0 rfl rfl ?_
  refine ct_bipush C dX7_wantsCell_1 (114 : Int32) (by decide) ?_
  refine ct_icmp_eq C dX7_wantsCell_3 12 (by decide) (fun hc1 => ?_) (fun hc1 => ?_)
  · have h := h.1 hc1
    refine ct_sub [] [] rfl ?_
    exact kb_X7_wantsCell_12 C hr hlk   h
  · have h := h.2 hc1
    refine ct_iload_n C dX7_wantsCell_6 0 rfl rfl ?_
    refine ct_bipush C dX7_wantsCell_7 (119 : Int32) (by decide) ?_
    refine ct_icmp_ne C dX7_wantsCell_9 16 (by decide) (fun hc2 => ?_) (fun hc2 => ?_)
    · have h := h.1 hc2
      refine ct_iconst C dX7_wantsCell_16 (0 : Int32) (by decide) ?_
      exact ct_zret C hr hlk dX7_wantsCell_17 (by decide) h
    · have h := h.2 hc2
      refine ct_sub [] [] rfl ?_
      exact kb_X7_wantsCell_12 C hr hlk   h
abbrev rm_X7_wantsNumber : Room := { frames := 0, cells := 0, slots := 0, locals := 0 }
set_option maxHeartbeats 4000000 in
set_option maxRecDepth 100000 in
theorem kb_X7_wantsNumber_18 {p : Program} {l : Launch} {e : Env} {s : State} {mth : MethodId} {args : Array Value} {below : List Frame} {meth : Method} {c : Code} {D : va_G} {cy : Nat → ClassId} {o : Nat} {Q : Int32 → ct_M → Prop} {m : ct_M} (C : ct_Cx p s mth c cX7_wantsNumber 1 args RX7 D cy) (hr : meth.sig.returnType = (some .boolean)) (hlk : meth.locks = false) (h : wb_X7_wantsNumber_18 Q  m) : ct_J p l e rm_X7_wantsNumber s mth args below meth c 1 D cy o ct_NN 0 0 (MQ below (va_Qi Q (ct_P D cy o ct_NN) (fun q => o ≤ q)) args s 0 0 (fun q => o ≤ q)) m 18 [] [] := by
  unfold wb_X7_wantsNumber_18 at h
  refine ct_iconst C dX7_wantsNumber_18 (1 : Int32) (by decide) ?_
  refine ct_goto C dX7_wantsNumber_19 23 (by decide) ?_
  exact ct_zret C hr hlk dX7_wantsNumber_23 (by decide) h
set_option maxHeartbeats 4000000 in
set_option maxRecDepth 100000 in
theorem c_X7_wantsNumber (l : Launch) (D : va_G) (cy : Nat → ClassId) (o : Nat) {p0 : Int32} {Q : Int32 → ct_M → Prop} {m : ct_M} (h : wp_X7_wantsNumber p0 Q m) : Met l yX7_wantsNumber (ct_ws yX7_wantsNumber cX7_wantsNumber 1 (some .boolean)) rm_X7_wantsNumber (va_Pc [.int p0] (ct_P D cy o ct_NN m)) (va_Qi Q (ct_P D cy o ct_NN) (fun q => o ≤ q)) 0 0 (fun q => o ≤ q) := by
  refine ct_met l D cy o ct_NN m (by decide) (Nat.le_of_ble_eq_true rfl) (fun p e s mth args below meth c C hr hlk => ?_)
  refine ct_sub [0] [(0, .int p0)] rfl ?_
  unfold wp_X7_wantsNumber at h
  refine ct_iload_n C dX7_wantsNumber_0 0 rfl rfl ?_
  refine ct_bipush C dX7_wantsNumber_1 (43 : Int32) (by decide) ?_
  refine ct_icmp_eq C dX7_wantsNumber_3 18 (by decide) (fun hc1 => ?_) (fun hc1 => ?_)
  · have h := h.1 hc1
    refine ct_sub [] [] rfl ?_
    exact kb_X7_wantsNumber_18 C hr hlk   h
  · have h := h.2 hc1
    refine ct_iload_n C dX7_wantsNumber_6 0 rfl rfl ?_
    refine ct_bipush C dX7_wantsNumber_7 (45 : Int32) (by decide) ?_
    refine ct_icmp_eq C dX7_wantsNumber_9 18 (by decide) (fun hc2 => ?_) (fun hc2 => ?_)
    · have h := h.1 hc2
      refine ct_sub [] [] rfl ?_
      exact kb_X7_wantsNumber_18 C hr hlk   h
    · have h := h.2 hc2
      refine ct_iload_n C dX7_wantsNumber_12 0 rfl rfl ?_
      refine ct_bipush C dX7_wantsNumber_13 (63 : Int32) (by decide) ?_
      refine ct_icmp_ne C dX7_wantsNumber_15 22 (by decide) (fun hc3 => ?_) (fun hc3 => ?_)
      · have h := h.1 hc3
        refine ct_iconst C dX7_wantsNumber_22 (0 : Int32) (by decide) ?_
        exact ct_zret C hr hlk dX7_wantsNumber_23 (by decide) h
      · have h := h.2 hc3
        refine ct_sub [] [] rfl ?_
        exact kb_X7_wantsNumber_18 C hr hlk   h
abbrev rm_X7_opens : Room := { frames := 0, cells := 0, slots := 0, locals := 0 }
set_option maxHeartbeats 4000000 in
set_option maxRecDepth 100000 in
theorem c_X7_opens (l : Launch) (D : va_G) (cy : Nat → ClassId) (o : Nat) {a0 : Nat} {p1 : Int32} {Q : Int32 → ct_M → Prop} {m : ct_M} (ka0 : ct_K 7 a0) (h : wp_X7_opens a0 p1 Q m) : Met l yX7_opens (ct_ws yX7_opens cX7_opens 2 (some .boolean)) rm_X7_opens (va_Pc [.ref (o + a0), .int p1] (ct_P D cy o ct_NN m)) (va_Qi Q (ct_P D cy o ct_NN) (fun q => o ≤ q)) 0 0 (fun q => o ≤ q) := by
  refine ct_met l D cy o ct_NN m (by decide) (Nat.le_of_ble_eq_true rfl) (fun p e s mth args below meth c C hr hlk => ?_)
  refine ct_sub [0, 1] [(0, .ref (o + a0)), (1, .int p1)] rfl ?_
  unfold wp_X7_opens at h
  refine ct_aload_n C dX7_opens_0 0 rfl rfl ?_
  refine gf_X7_25 C dX7_opens_1 ka0 ?_
  refine ct_if_lt C dX7_opens_4 15 (by decide) (fun hc1 => ?_) (fun hc1 => ?_)
  · have h := h.1 hc1
    refine ct_iconst C dX7_opens_15 (0 : Int32) (by decide) ?_
    exact ct_zret C hr hlk dX7_opens_16 (by decide) h
  · have h := h.2 hc1
    refine ct_aload_n C dX7_opens_7 0 rfl rfl ?_
    refine gf_X7_25 C dX7_opens_8 ka0 ?_
    refine ct_iconst C dX7_opens_11 (3 : Int32) (by decide) ?_
    refine ct_icmp_lt C dX7_opens_12 17 (by decide) (fun hc2 => ?_) (fun hc2 => ?_)
    · have h := h.1 hc2
      refine ct_aload_n C dX7_opens_17 0 rfl rfl ?_
      refine gf_X7_9 C dX7_opens_18 ka0 ?_
      have hk3 := ct_t7_4 ka0
      refine ct_aload_n C dX7_opens_21 0 rfl rfl ?_
      refine gf_X7_25 C dX7_opens_22 ka0 ?_
      refine ct_iload_n C dX7_opens_25 1 rfl rfl ?_
      refine ct_cast C dX7_opens_26 hk3 h.1 ?_
      have h := h.2
      refine ct_mem (fun m4 em4 => ?_)
      have h := h m4 em4
      refine ct_aload_n C dX7_opens_27 0 rfl rfl ?_
      refine ct_dup C dX7_opens_28 rfl ?_
      refine gf_X7_25 C dX7_opens_29 ka0 ?_
      refine ct_iconst C dX7_opens_32 (1 : Int32) (by decide) ?_
      refine ct_iadd C dX7_opens_33 ?_
      refine pf_X7_25 C dX7_opens_34 ka0 ?_
      refine ct_mem (fun m5 em5 => ?_)
      have h := h m5 em5
      refine ct_iconst C dX7_opens_37 (1 : Int32) (by decide) ?_
      exact ct_zret C hr hlk dX7_opens_38 (by decide) h
    · have h := h.2 hc2
      refine ct_iconst C dX7_opens_15 (0 : Int32) (by decide) ?_
      exact ct_zret C hr hlk dX7_opens_16 (by decide) h
abbrev rm_X7_closes : Room := { frames := 0, cells := 0, slots := 0, locals := 0 }
set_option maxHeartbeats 4000000 in
set_option maxRecDepth 100000 in
theorem c_X7_closes (l : Launch) (D : va_G) (cy : Nat → ClassId) (o : Nat) {a0 : Nat} {p1 : Int32} {Q : Int32 → ct_M → Prop} {m : ct_M} (ka0 : ct_K 7 a0) (h : wp_X7_closes a0 p1 Q m) : Met l yX7_closes (ct_ws yX7_closes cX7_closes 2 (some .boolean)) rm_X7_closes (va_Pc [.ref (o + a0), .int p1] (ct_P D cy o ct_NN m)) (va_Qi Q (ct_P D cy o ct_NN) (fun q => o ≤ q)) 0 0 (fun q => o ≤ q) := by
  refine ct_met l D cy o ct_NN m (by decide) (Nat.le_of_ble_eq_true rfl) (fun p e s mth args below meth c C hr hlk => ?_)
  refine ct_sub [0, 1] [(0, .ref (o + a0)), (1, .int p1)] rfl ?_
  unfold wp_X7_closes at h
  refine ct_aload_n C dX7_closes_0 0 rfl rfl ?_
  refine gf_X7_25 C dX7_closes_1 ka0 ?_
  refine ct_iconst C dX7_closes_4 (1 : Int32) (by decide) ?_
  refine ct_icmp_lt C dX7_closes_5 31 (by decide) (fun hc1 => ?_) (fun hc1 => ?_)
  · have h := h.1 hc1
    refine ct_iconst C dX7_closes_31 (0 : Int32) (by decide) ?_
    exact ct_zret C hr hlk dX7_closes_32 (by decide) h
  · have h := h.2 hc1
    refine ct_aload_n C dX7_closes_8 0 rfl rfl ?_
    refine gf_X7_25 C dX7_closes_9 ka0 ?_
    refine ct_iconst C dX7_closes_12 (3 : Int32) (by decide) ?_
    refine ct_icmp_gt C dX7_closes_13 31 (by decide) (fun hc2 => ?_) (fun hc2 => ?_)
    · have h := h.1 hc2
      refine ct_iconst C dX7_closes_31 (0 : Int32) (by decide) ?_
      exact ct_zret C hr hlk dX7_closes_32 (by decide) h
    · have h := h.2 hc2
      refine ct_aload_n C dX7_closes_16 0 rfl rfl ?_
      refine gf_X7_9 C dX7_closes_17 ka0 ?_
      have hk3 := ct_t7_4 ka0
      refine ct_aload_n C dX7_closes_20 0 rfl rfl ?_
      refine gf_X7_25 C dX7_closes_21 ka0 ?_
      refine ct_iconst C dX7_closes_24 (1 : Int32) (by decide) ?_
      refine ct_isub C dX7_closes_25 ?_
      refine ct_cald C dX7_closes_26 hk3 h.1 ?_
      have h := h.2
      refine ct_iload_n C dX7_closes_27 1 rfl rfl ?_
      refine ct_icmp_eq C dX7_closes_28 33 (by decide) (fun hc4 => ?_) (fun hc4 => ?_)
      · have h := h.1 hc4
        refine ct_aload_n C dX7_closes_33 0 rfl rfl ?_
        refine ct_dup C dX7_closes_34 rfl ?_
        refine gf_X7_25 C dX7_closes_35 ka0 ?_
        refine ct_iconst C dX7_closes_38 (1 : Int32) (by decide) ?_
        refine ct_isub C dX7_closes_39 ?_
        refine pf_X7_25 C dX7_closes_40 ka0 ?_
        refine ct_mem (fun m5 em5 => ?_)
        have h := h m5 em5
        refine ct_iconst C dX7_closes_43 (1 : Int32) (by decide) ?_
        exact ct_zret C hr hlk dX7_closes_44 (by decide) h
      · have h := h.2 hc4
        refine ct_iconst C dX7_closes_31 (0 : Int32) (by decide) ?_
        exact ct_zret C hr hlk dX7_closes_32 (by decide) h
abbrev rm_X7_takesToken : Room := { frames := 1, cells := 0, slots := 0, locals := 21 }
set_option maxHeartbeats 4000000 in
set_option maxRecDepth 100000 in
theorem c_X7_takesToken (l : Launch) (D : va_G) (cy : Nat → ClassId) (o : Nat) {a0 : Nat} {p1 : Int32} {Q : Int32 → ct_M → Prop} {m : ct_M} (ka0 : ct_K 7 a0) (h : wp_X7_takesToken a0 p1 Q m) : Met l yX7_takesToken (ct_ws yX7_takesToken cX7_takesToken 2 (some .boolean)) rm_X7_takesToken (va_Pc [.ref (o + a0), .int p1] (ct_P D cy o ct_NN m)) (va_Qi Q (ct_P D cy o ct_NN) (fun q => o ≤ q)) 0 0 (fun q => o ≤ q) := by
  refine ct_met l D cy o ct_NN m (by decide) (Nat.le_of_ble_eq_true rfl) (fun p e s mth args below meth c C hr hlk => ?_)
  refine ct_sub [0, 1] [(0, .ref (o + a0)), (1, .int p1)] rfl ?_
  unfold wp_X7_takesToken at h
  refine ct_iload_n C dX7_takesToken_0 1 rfl rfl ?_
  refine ct_callSi (As := [.int p1]) C (c_X7_wantsCell l D cy o  h) kv_X7_32 rfl rfl (Nat.le_of_ble_eq_true rfl) ⟨rfl, rfl, Nat.le_of_ble_eq_true rfl, Nat.le_of_ble_eq_true rfl⟩ ⟨Nat.zero_le _, Nat.zero_le _⟩ dX7_takesToken_1 (fun r2 m1 h => ?_)
  refine ct_if_eq C dX7_takesToken_4 14 (by decide) (fun hc3 => ?_) (fun hc3 => ?_)
  · have h := h.1 hc3
    refine ct_iload_n C dX7_takesToken_14 1 rfl rfl ?_
    refine ct_callSi (As := [.int p1]) C (c_X7_wantsNumber l D cy o  h) kv_X7_35 rfl rfl (Nat.le_of_ble_eq_true rfl) ⟨rfl, rfl, Nat.le_of_ble_eq_true rfl, Nat.le_of_ble_eq_true rfl⟩ ⟨Nat.zero_le _, Nat.zero_le _⟩ dX7_takesToken_15 (fun r5 m4 h => ?_)
    refine ct_if_eq C dX7_takesToken_18 29 (by decide) (fun hc6 => ?_) (fun hc6 => ?_)
    · have h := h.1 hc6
      refine ct_iload_n C dX7_takesToken_29 1 rfl rfl ?_
      by_cases hc7 : p1 = (33 : Int32)
      · have h := h.1 hc7
        refine ct_lookup C dX7_takesToken_30 104 (by decide) (show Op.lookupswitch.offset _ _ _ = (74 : Int) by rw [hc7]; decide) (by decide) ?_
        refine ct_iconst C dX7_takesToken_104 (1 : Int32) (by decide) ?_
        exact ct_zret C hr hlk dX7_takesToken_105 (by decide) h
      · have h := h.2 hc7
        by_cases hc8 : p1 = (40 : Int32)
        · have h := h.1 hc8
          refine ct_lookup C dX7_takesToken_30 106 (by decide) (show Op.lookupswitch.offset _ _ _ = (76 : Int) by rw [hc8]; decide) (by decide) ?_
          refine ct_aload_n C dX7_takesToken_106 0 rfl rfl ?_
          refine ct_bipush C dX7_takesToken_107 (124 : Int32) (by decide) ?_
          refine ct_callVi (As := [.int (124 : Int32)]) (T := TX7) C (c_X7_opens l D cy o ka0 h) kv_X7_38 ka0.1 (ct_E7 ka0) rfl rfl rfl (Nat.le_of_ble_eq_true rfl) ⟨rfl, rfl, Nat.le_of_ble_eq_true rfl, Nat.le_of_ble_eq_true rfl⟩ ⟨Nat.zero_le _, Nat.zero_le _⟩ dX7_takesToken_109 (fun r10 m9 h => ?_)
          exact ct_zret C hr hlk dX7_takesToken_112 h.1.1 h.2
        · have h := h.2 hc8
          by_cases hc11 : p1 = (41 : Int32)
          · have h := h.1 hc11
            refine ct_lookup C dX7_takesToken_30 144 (by decide) (show Op.lookupswitch.offset _ _ _ = (114 : Int) by rw [hc11]; decide) (by decide) ?_
            refine ct_aload_n C dX7_takesToken_144 0 rfl rfl ?_
            refine ct_iload_n C dX7_takesToken_145 1 rfl rfl ?_
            refine ct_callVi (As := [.int p1]) (T := TX7) C (c_X7_closes l D cy o ka0 h) kv_X7_41 ka0.1 (ct_E7 ka0) rfl rfl rfl (Nat.le_of_ble_eq_true rfl) ⟨rfl, rfl, Nat.le_of_ble_eq_true rfl, Nat.le_of_ble_eq_true rfl⟩ ⟨Nat.zero_le _, Nat.zero_le _⟩ dX7_takesToken_146 (fun r13 m12 h => ?_)
            exact ct_zret C hr hlk dX7_takesToken_149 h.1.1 h.2
          · have h := h.2 hc11
            by_cases hc14 : p1 = (46 : Int32)
            · have h := h.1 hc14
              refine ct_lookup C dX7_takesToken_30 150 (by decide) (show Op.lookupswitch.offset _ _ _ = (120 : Int) by rw [hc14]; decide) (by decide) ?_
              refine ct_aload_n C dX7_takesToken_150 0 rfl rfl ?_
              refine ct_iconst C dX7_takesToken_151 (2 : Int32) (by decide) ?_
              refine pf_X7_15 C dX7_takesToken_152 ka0 ?_
              refine ct_mem (fun m15 em15 => ?_)
              have h := h m15 em15
              refine ct_aload_n C dX7_takesToken_155 0 rfl rfl ?_
              refine ct_dup C dX7_takesToken_156 rfl ?_
              refine gf_X7_22 C dX7_takesToken_157 ka0 ?_
              refine ct_iconst C dX7_takesToken_160 (1 : Int32) (by decide) ?_
              refine ct_iadd C dX7_takesToken_161 ?_
              refine pf_X7_22 C dX7_takesToken_162 ka0 ?_
              refine ct_mem (fun m16 em16 => ?_)
              have h := h m16 em16
              refine ct_aload_n C dX7_takesToken_165 0 rfl rfl ?_
              refine gf_X7_25 C dX7_takesToken_166 ka0 ?_
              refine ct_if_ne C dX7_takesToken_169 176 (by decide) (fun hc17 => ?_) (fun hc17 => ?_)
              · have h := h.1 hc17
                refine ct_iconst C dX7_takesToken_176 (0 : Int32) (by decide) ?_
                exact ct_zret C hr hlk dX7_takesToken_177 (by decide) h
              · have h := h.2 hc17
                refine ct_iconst C dX7_takesToken_172 (1 : Int32) (by decide) ?_
                refine ct_goto C dX7_takesToken_173 177 (by decide) ?_
                exact ct_zret C hr hlk dX7_takesToken_177 (by decide) h
            · have h := h.2 hc14
              by_cases hc18 : p1 = (120 : Int32)
              · have h := h.1 hc18
                refine ct_lookup C dX7_takesToken_30 104 (by decide) (show Op.lookupswitch.offset _ _ _ = (74 : Int) by rw [hc18]; decide) (by decide) ?_
                refine ct_iconst C dX7_takesToken_104 (1 : Int32) (by decide) ?_
                exact ct_zret C hr hlk dX7_takesToken_105 (by decide) h
              · have h := h.2 hc18
                by_cases hc19 : p1 = (123 : Int32)
                · have h := h.1 hc19
                  refine ct_lookup C dX7_takesToken_30 113 (by decide) (show Op.lookupswitch.offset _ _ _ = (83 : Int) by rw [hc19]; decide) (by decide) ?_
                  refine ct_aload_n C dX7_takesToken_113 0 rfl rfl ?_
                  refine ct_bipush C dX7_takesToken_114 (125 : Int32) (by decide) ?_
                  refine ct_callVi (As := [.int (125 : Int32)]) (T := TX7) C (c_X7_opens l D cy o ka0 h) kv_X7_38 ka0.1 (ct_E7 ka0) rfl rfl rfl (Nat.le_of_ble_eq_true rfl) ⟨rfl, rfl, Nat.le_of_ble_eq_true rfl, Nat.le_of_ble_eq_true rfl⟩ ⟨Nat.zero_le _, Nat.zero_le _⟩ dX7_takesToken_116 (fun r21 m20 h => ?_)
                  exact ct_zret C hr hlk dX7_takesToken_119 h.1.1 h.2
                · have h := h.2 hc19
                  by_cases hc22 : p1 = (124 : Int32)
                  · have h := h.1 hc22
                    refine ct_lookup C dX7_takesToken_30 120 (by decide) (show Op.lookupswitch.offset _ _ _ = (90 : Int) by rw [hc22]; decide) (by decide) ?_
                    refine ct_aload_n C dX7_takesToken_120 0 rfl rfl ?_
                    refine ct_bipush C dX7_takesToken_121 (124 : Int32) (by decide) ?_
                    refine ct_callVi (As := [.int (124 : Int32)]) (T := TX7) C (c_X7_closes l D cy o ka0 h) kv_X7_41 ka0.1 (ct_E7 ka0) rfl rfl rfl (Nat.le_of_ble_eq_true rfl) ⟨rfl, rfl, Nat.le_of_ble_eq_true rfl, Nat.le_of_ble_eq_true rfl⟩ ⟨Nat.zero_le _, Nat.zero_le _⟩ dX7_takesToken_123 (fun r24 m23 h => ?_)
                    refine ct_if_eq C dX7_takesToken_126 142 (by decide) (fun hc25 => ?_) (fun hc25 => ?_)
                    · have h := h.1 hc25
                      refine ct_iconst C dX7_takesToken_142 (0 : Int32) (by decide) ?_
                      exact ct_zret C hr hlk dX7_takesToken_143 (by decide) h
                    · have h := h.2 hc25
                      refine ct_aload_n C dX7_takesToken_129 0 rfl rfl ?_
                      refine ct_bipush C dX7_takesToken_130 (41 : Int32) (by decide) ?_
                      refine ct_callVi (As := [.int (41 : Int32)]) (T := TX7) C (c_X7_opens l D cy o ka0 h) kv_X7_38 ka0.1 (ct_E7 ka0) rfl rfl rfl (Nat.le_of_ble_eq_true rfl) ⟨rfl, rfl, Nat.le_of_ble_eq_true rfl, Nat.le_of_ble_eq_true rfl⟩ ⟨Nat.zero_le _, Nat.zero_le _⟩ dX7_takesToken_132 (fun r27 m26 h => ?_)
                      refine ct_if_eq C dX7_takesToken_135 142 (by decide) (fun hc28 => ?_) (fun hc28 => ?_)
                      · have h := h.1 hc28
                        refine ct_iconst C dX7_takesToken_142 (0 : Int32) (by decide) ?_
                        exact ct_zret C hr hlk dX7_takesToken_143 (by decide) h
                      · have h := h.2 hc28
                        refine ct_iconst C dX7_takesToken_138 (1 : Int32) (by decide) ?_
                        refine ct_goto C dX7_takesToken_139 143 (by decide) ?_
                        exact ct_zret C hr hlk dX7_takesToken_143 (by decide) h
                  · have h := h.2 hc22
                    by_cases hc29 : p1 = (125 : Int32)
                    · have h := h.1 hc29
                      refine ct_lookup C dX7_takesToken_30 144 (by decide) (show Op.lookupswitch.offset _ _ _ = (114 : Int) by rw [hc29]; decide) (by decide) ?_
                      refine ct_aload_n C dX7_takesToken_144 0 rfl rfl ?_
                      refine ct_iload_n C dX7_takesToken_145 1 rfl rfl ?_
                      refine ct_callVi (As := [.int p1]) (T := TX7) C (c_X7_closes l D cy o ka0 h) kv_X7_41 ka0.1 (ct_E7 ka0) rfl rfl rfl (Nat.le_of_ble_eq_true rfl) ⟨rfl, rfl, Nat.le_of_ble_eq_true rfl, Nat.le_of_ble_eq_true rfl⟩ ⟨Nat.zero_le _, Nat.zero_le _⟩ dX7_takesToken_146 (fun r31 m30 h => ?_)
                      exact ct_zret C hr hlk dX7_takesToken_149 h.1.1 h.2
                    · have h := h.2 hc29
                      refine ct_lookup (off := 148) C dX7_takesToken_30 178 (by decide) ((lv_osw hc7 (by decide)).trans ((lv_osw hc8 (by decide)).trans ((lv_osw hc11 (by decide)).trans ((lv_osw hc14 (by decide)).trans ((lv_osw hc18 (by decide)).trans ((lv_osw hc19 (by decide)).trans ((lv_osw hc22 (by decide)).trans ((lv_osw hc29 (by decide)).trans rfl)))))))) (by decide) ?_
                      refine ct_iconst C dX7_takesToken_178 (0 : Int32) (by decide) ?_
                      exact ct_zret C hr hlk dX7_takesToken_179 (by decide) h
    · have h := h.2 hc6
      refine ct_aload_n C dX7_takesToken_21 0 rfl rfl ?_
      refine ct_bipush C dX7_takesToken_22 (6 : Int32) (by decide) ?_
      refine pf_X7_15 C dX7_takesToken_24 ka0 ?_
      refine ct_mem (fun m32 em32 => ?_)
      have h := h m32 em32
      refine ct_iconst C dX7_takesToken_27 (1 : Int32) (by decide) ?_
      exact ct_zret C hr hlk dX7_takesToken_28 (by decide) h
  · have h := h.2 hc3
    refine ct_aload_n C dX7_takesToken_7 0 rfl rfl ?_
    refine ct_iconst C dX7_takesToken_8 (5 : Int32) (by decide) ?_
    refine pf_X7_15 C dX7_takesToken_9 ka0 ?_
    refine ct_mem (fun m33 em33 => ?_)
    have h := h m33 em33
    refine ct_iconst C dX7_takesToken_12 (1 : Int32) (by decide) ?_
    exact ct_zret C hr hlk dX7_takesToken_13 (by decide) h
abbrev rm_X7_takes : Room := { frames := 2, cells := 0, slots := 0, locals := 42 }
set_option maxHeartbeats 4000000 in
set_option maxRecDepth 100000 in
theorem kb_X7_takes_153 {p : Program} {l : Launch} {e : Env} {s : State} {mth : MethodId} {args : Array Value} {below : List Frame} {meth : Method} {c : Code} {D : va_G} {cy : Nat → ClassId} {o : Nat} {Q : Int32 → ct_M → Prop} {m : ct_M} (C : ct_Cx p s mth c cX7_takes 2 args RX7 D cy) (hr : meth.sig.returnType = (some .boolean)) (hlk : meth.locks = false) (h : wb_X7_takes_153 Q  m) : ct_J p l e rm_X7_takes s mth args below meth c 2 D cy o ct_NN 0 0 (MQ below (va_Qi Q (ct_P D cy o ct_NN) (fun q => o ≤ q)) args s 0 0 (fun q => o ≤ q)) m 153 [] [] := by
  unfold wb_X7_takes_153 at h
  refine ct_iconst C dX7_takes_153 (1 : Int32) (by decide) ?_
  refine ct_goto C dX7_takes_154 158 (by decide) ?_
  exact ct_zret C hr hlk dX7_takes_158 (by decide) h
set_option maxHeartbeats 4000000 in
set_option maxRecDepth 100000 in
theorem kb_X7_takes_90 {p : Program} {l : Launch} {e : Env} {s : State} {mth : MethodId} {args : Array Value} {below : List Frame} {meth : Method} {c : Code} {D : va_G} {cy : Nat → ClassId} {o : Nat} {Q : Int32 → ct_M → Prop} {v1 : Int32} {s0 : Int32} {s1 : Nat} {m : ct_M} (C : ct_Cx p s mth c cX7_takes 2 args RX7 D cy) (hr : meth.sig.returnType = (some .boolean)) (hlk : meth.locks = false) (ks1 : ct_K 7 s1) (h : wb_X7_takes_90 Q v1 s0 s1 m) : ct_J p l e rm_X7_takes s mth args below meth c 2 D cy o ct_NN 0 0 (MQ below (va_Qi Q (ct_P D cy o ct_NN) (fun q => o ≤ q)) args s 0 0 (fun q => o ≤ q)) m 90 [(1, .int v1)] [.int s0, .ref (o + s1)] := by
  unfold wb_X7_takes_90 at h
  refine pf_X7_15 C dX7_takes_90 ks1 ?_
  refine ct_mem (fun m1 em1 => ?_)
  have h := h m1 em1
  refine ct_iload_n C dX7_takes_93 0 rfl rfl ?_
  refine ct_bipush C dX7_takes_94 (48 : Int32) (by decide) ?_
  refine ct_icmp_lt C dX7_takes_96 109 (by decide) (fun hc2 => ?_) (fun hc2 => ?_)
  · have h := h.1 hc2
    refine ct_iconst C dX7_takes_109 (0 : Int32) (by decide) ?_
    exact ct_zret C hr hlk dX7_takes_110 (by decide) h
  · have h := h.2 hc2
    refine ct_iload_n C dX7_takes_99 0 rfl rfl ?_
    refine ct_bipush C dX7_takes_100 (57 : Int32) (by decide) ?_
    refine ct_icmp_gt C dX7_takes_102 109 (by decide) (fun hc3 => ?_) (fun hc3 => ?_)
    · have h := h.1 hc3
      refine ct_iconst C dX7_takes_109 (0 : Int32) (by decide) ?_
      exact ct_zret C hr hlk dX7_takes_110 (by decide) h
    · have h := h.2 hc3
      refine ct_iconst C dX7_takes_105 (1 : Int32) (by decide) ?_
      refine ct_goto C dX7_takes_106 110 (by decide) ?_
      exact ct_zret C hr hlk dX7_takes_110 (by decide) h
set_option maxHeartbeats 4000000 in
set_option maxRecDepth 100000 in
theorem c_X7_takes (l : Launch) (D : va_G) (cy : Nat → ClassId) (o : Nat) {a0 : Nat} {p1 : Int32} {Q : Int32 → ct_M → Prop} {m : ct_M} (ka0 : ct_K 7 a0) (h : wp_X7_takes a0 p1 Q m) : Met l yX7_takes (ct_ws yX7_takes cX7_takes 2 (some .boolean)) rm_X7_takes (va_Pc [.ref (o + a0), .int p1] (ct_P D cy o ct_NN m)) (va_Qi Q (ct_P D cy o ct_NN) (fun q => o ≤ q)) 0 0 (fun q => o ≤ q) := by
  refine ct_met l D cy o ct_NN m (by decide) (Nat.le_of_ble_eq_true rfl) (fun p e s mth args below meth c C hr hlk => ?_)
  refine ct_sub [0, 1] [(0, .ref (o + a0)), (1, .int p1)] rfl ?_
  unfold wp_X7_takes at h
  refine ct_aload_n C dX7_takes_0 0 rfl rfl ?_
  refine gf_X7_15 C dX7_takes_1 ka0 ?_
  by_cases hc1 : (m.1 a0 0) = (0 : Int32)
  · have h := h.1 hc1
    refine ct_tableIn (off := 44) C dX7_takes_4 48 (by rw [hc1]; decide) (by rw [hc1]; decide) (by rw [hc1]; decide) (by decide) ?_
    refine ct_aload_n C dX7_takes_48 0 rfl rfl ?_
    refine ct_iconst C dX7_takes_49 (1 : Int32) (by decide) ?_
    refine pf_X7_15 C dX7_takes_50 ka0 ?_
    refine ct_mem (fun m2 em2 => ?_)
    have h := h m2 em2
    refine ct_iload_n C dX7_takes_53 1 rfl rfl ?_
    refine ct_bipush C dX7_takes_54 (77 : Int32) (by decide) ?_
    refine ct_icmp_ne C dX7_takes_56 63 (by decide) (fun hc3 => ?_) (fun hc3 => ?_)
    · have h := h.1 hc3
      refine ct_iconst C dX7_takes_63 (0 : Int32) (by decide) ?_
      exact ct_zret C hr hlk dX7_takes_64 (by decide) h
    · have h := h.2 hc3
      refine ct_iconst C dX7_takes_59 (1 : Int32) (by decide) ?_
      refine ct_goto C dX7_takes_60 64 (by decide) ?_
      exact ct_zret C hr hlk dX7_takes_64 (by decide) h
  · have h := h.2 hc1
    by_cases hc4 : (m.1 a0 0) = (1 : Int32)
    · have h := h.1 hc4
      refine ct_tableIn (off := 61) C dX7_takes_4 65 (by rw [hc4]; decide) (by rw [hc4]; decide) (by rw [hc4]; decide) (by decide) ?_
      refine ct_aload_n C dX7_takes_65 0 rfl rfl ?_
      refine ct_dup C dX7_takes_66 rfl ?_
      refine gf_X7_19 C dX7_takes_67 ka0 ?_
      refine ct_iconst C dX7_takes_70 (1 : Int32) (by decide) ?_
      refine ct_iadd C dX7_takes_71 ?_
      refine pf_X7_19 C dX7_takes_72 ka0 ?_
      refine ct_mem (fun m5 em5 => ?_)
      have h := h m5 em5
      refine ct_aload_n C dX7_takes_75 0 rfl rfl ?_
      refine ct_aload_n C dX7_takes_76 0 rfl rfl ?_
      refine gf_X7_19 C dX7_takes_77 ka0 ?_
      refine ct_bipush C dX7_takes_80 (6 : Int32) (by decide) ?_
      refine ct_icmp_ge C dX7_takes_82 89 (by decide) (fun hc6 => ?_) (fun hc6 => ?_)
      · have h := h.1 hc6
        refine ct_iconst C dX7_takes_89 (2 : Int32) (by decide) ?_
        refine ct_sub [1] [(1, .int p1)] rfl ?_
        exact kb_X7_takes_90 C hr hlk  ka0 h
      · have h := h.2 hc6
        refine ct_iconst C dX7_takes_85 (1 : Int32) (by decide) ?_
        refine ct_goto C dX7_takes_86 90 (by decide) ?_
        refine ct_sub [1] [(1, .int p1)] rfl ?_
        exact kb_X7_takes_90 C hr hlk  ka0 h
    · have h := h.2 hc4
      by_cases hc7 : (m.1 a0 0) = (2 : Int32)
      · have h := h.1 hc7
        refine ct_tableIn (off := 107) C dX7_takes_4 111 (by rw [hc7]; decide) (by rw [hc7]; decide) (by rw [hc7]; decide) (by decide) ?_
        refine ct_aload_n C dX7_takes_111 0 rfl rfl ?_
        refine ct_iconst C dX7_takes_112 (3 : Int32) (by decide) ?_
        refine pf_X7_15 C dX7_takes_113 ka0 ?_
        refine ct_mem (fun m8 em8 => ?_)
        have h := h m8 em8
        refine ct_iload_n C dX7_takes_116 1 rfl rfl ?_
        refine ct_bipush C dX7_takes_117 (116 : Int32) (by decide) ?_
        refine ct_icmp_ne C dX7_takes_119 134 (by decide) (fun hc9 => ?_) (fun hc9 => ?_)
        · have h := h.1 hc9
          refine ct_iconst C dX7_takes_134 (0 : Int32) (by decide) ?_
          exact ct_zret C hr hlk dX7_takes_135 (by decide) h
        · have h := h.2 hc9
          refine ct_aload_n C dX7_takes_122 0 rfl rfl ?_
          refine gf_X7_22 C dX7_takes_123 ka0 ?_
          refine ct_iconst C dX7_takes_126 (3 : Int32) (by decide) ?_
          refine ct_icmp_ge C dX7_takes_127 134 (by decide) (fun hc10 => ?_) (fun hc10 => ?_)
          · have h := h.1 hc10
            refine ct_iconst C dX7_takes_134 (0 : Int32) (by decide) ?_
            exact ct_zret C hr hlk dX7_takes_135 (by decide) h
          · have h := h.2 hc10
            refine ct_iconst C dX7_takes_130 (1 : Int32) (by decide) ?_
            refine ct_goto C dX7_takes_131 135 (by decide) ?_
            exact ct_zret C hr hlk dX7_takes_135 (by decide) h
      · have h := h.2 hc7
        by_cases hc11 : (m.1 a0 0) = (3 : Int32)
        · have h := h.1 hc11
          refine ct_tableIn (off := 132) C dX7_takes_4 136 (by rw [hc11]; decide) (by rw [hc11]; decide) (by rw [hc11]; decide) (by decide) ?_
          refine ct_aload_n C dX7_takes_136 0 rfl rfl ?_
          refine ct_iconst C dX7_takes_137 (4 : Int32) (by decide) ?_
          refine pf_X7_15 C dX7_takes_138 ka0 ?_
          refine ct_mem (fun m12 em12 => ?_)
          have h := h m12 em12
          refine ct_iload_n C dX7_takes_141 1 rfl rfl ?_
          refine ct_bipush C dX7_takes_142 (49 : Int32) (by decide) ?_
          refine ct_icmp_eq C dX7_takes_144 153 (by decide) (fun hc13 => ?_) (fun hc13 => ?_)
          · have h := h.1 hc13
            refine ct_sub [] [] rfl ?_
            exact kb_X7_takes_153 C hr hlk   h
          · have h := h.2 hc13
            refine ct_iload_n C dX7_takes_147 1 rfl rfl ?_
            refine ct_bipush C dX7_takes_148 (50 : Int32) (by decide) ?_
            refine ct_icmp_ne C dX7_takes_150 157 (by decide) (fun hc14 => ?_) (fun hc14 => ?_)
            · have h := h.1 hc14
              refine ct_iconst C dX7_takes_157 (0 : Int32) (by decide) ?_
              exact ct_zret C hr hlk dX7_takes_158 (by decide) h
            · have h := h.2 hc14
              refine ct_sub [] [] rfl ?_
              exact kb_X7_takes_153 C hr hlk   h
        · have h := h.2 hc11
          by_cases hc15 : (m.1 a0 0) = (4 : Int32)
          · have h := h.1 hc15
            refine ct_tableIn (off := 201) C dX7_takes_4 205 (by rw [hc15]; decide) (by rw [hc15]; decide) (by rw [hc15]; decide) (by decide) ?_
            refine ct_aload_n C dX7_takes_205 0 rfl rfl ?_
            refine ct_iload_n C dX7_takes_206 1 rfl rfl ?_
            refine ct_callVi (As := [.int p1]) (T := TX7) C (c_X7_takesToken l D cy o ka0 h) kv_X7_28 ka0.1 (ct_E7 ka0) rfl rfl rfl (Nat.le_of_ble_eq_true rfl) ⟨rfl, rfl, Nat.le_of_ble_eq_true rfl, Nat.le_of_ble_eq_true rfl⟩ ⟨Nat.zero_le _, Nat.zero_le _⟩ dX7_takes_207 (fun r17 m16 h => ?_)
            exact ct_zret C hr hlk dX7_takes_210 h.1.1 h.2
          · have h := h.2 hc15
            by_cases hc18 : (m.1 a0 0) = (5 : Int32)
            · have h := h.1 hc18
              refine ct_tableIn (off := 155) C dX7_takes_4 159 (by rw [hc18]; decide) (by rw [hc18]; decide) (by rw [hc18]; decide) (by decide) ?_
              refine ct_aload_n C dX7_takes_159 0 rfl rfl ?_
              refine ct_iconst C dX7_takes_160 (4 : Int32) (by decide) ?_
              refine pf_X7_15 C dX7_takes_161 ka0 ?_
              refine ct_mem (fun m19 em19 => ?_)
              have h := h m19 em19
              refine ct_iload_n C dX7_takes_164 1 rfl rfl ?_
              refine ct_bipush C dX7_takes_165 (48 : Int32) (by decide) ?_
              refine ct_icmp_lt C dX7_takes_167 180 (by decide) (fun hc20 => ?_) (fun hc20 => ?_)
              · have h := h.1 hc20
                refine ct_iconst C dX7_takes_180 (0 : Int32) (by decide) ?_
                exact ct_zret C hr hlk dX7_takes_181 (by decide) h
              · have h := h.2 hc20
                refine ct_iload_n C dX7_takes_170 1 rfl rfl ?_
                refine ct_bipush C dX7_takes_171 (54 : Int32) (by decide) ?_
                refine ct_icmp_ge C dX7_takes_173 180 (by decide) (fun hc21 => ?_) (fun hc21 => ?_)
                · have h := h.1 hc21
                  refine ct_iconst C dX7_takes_180 (0 : Int32) (by decide) ?_
                  exact ct_zret C hr hlk dX7_takes_181 (by decide) h
                · have h := h.2 hc21
                  refine ct_iconst C dX7_takes_176 (1 : Int32) (by decide) ?_
                  refine ct_goto C dX7_takes_177 181 (by decide) ?_
                  exact ct_zret C hr hlk dX7_takes_181 (by decide) h
            · have h := h.2 hc18
              by_cases hc22 : (m.1 a0 0) = (6 : Int32)
              · have h := h.1 hc22
                refine ct_tableIn (off := 178) C dX7_takes_4 182 (by rw [hc22]; decide) (by rw [hc22]; decide) (by rw [hc22]; decide) (by decide) ?_
                refine ct_aload_n C dX7_takes_182 0 rfl rfl ?_
                refine ct_iconst C dX7_takes_183 (4 : Int32) (by decide) ?_
                refine pf_X7_15 C dX7_takes_184 ka0 ?_
                refine ct_mem (fun m23 em23 => ?_)
                have h := h m23 em23
                refine ct_iload_n C dX7_takes_187 1 rfl rfl ?_
                refine ct_bipush C dX7_takes_188 (48 : Int32) (by decide) ?_
                refine ct_icmp_lt C dX7_takes_190 203 (by decide) (fun hc24 => ?_) (fun hc24 => ?_)
                · have h := h.1 hc24
                  refine ct_iconst C dX7_takes_203 (0 : Int32) (by decide) ?_
                  exact ct_zret C hr hlk dX7_takes_204 (by decide) h
                · have h := h.2 hc24
                  refine ct_iload_n C dX7_takes_193 1 rfl rfl ?_
                  refine ct_bipush C dX7_takes_194 (57 : Int32) (by decide) ?_
                  refine ct_icmp_gt C dX7_takes_196 203 (by decide) (fun hc25 => ?_) (fun hc25 => ?_)
                  · have h := h.1 hc25
                    refine ct_iconst C dX7_takes_203 (0 : Int32) (by decide) ?_
                    exact ct_zret C hr hlk dX7_takes_204 (by decide) h
                  · have h := h.2 hc25
                    refine ct_iconst C dX7_takes_199 (1 : Int32) (by decide) ?_
                    refine ct_goto C dX7_takes_200 204 (by decide) ?_
                    exact ct_zret C hr hlk dX7_takes_204 (by decide) h
              · have h := h.2 hc22
                have thc1 := lv_neT hc1 (a := 0) (by decide)
                have thc4 := lv_neT hc4 (a := 1) (by decide)
                have thc7 := lv_neT hc7 (a := 2) (by decide)
                have thc11 := lv_neT hc11 (a := 3) (by decide)
                have thc15 := lv_neT hc15 (a := 4) (by decide)
                have thc18 := lv_neT hc18 (a := 5) (by decide)
                have thc22 := lv_neT hc22 (a := 6) (by decide)
                refine ct_tableOut C dX7_takes_4 205 (by omega) (by decide) ?_
                refine ct_aload_n C dX7_takes_205 0 rfl rfl ?_
                refine ct_iload_n C dX7_takes_206 1 rfl rfl ?_
                refine ct_callVi (As := [.int p1]) (T := TX7) C (c_X7_takesToken l D cy o ka0 h) kv_X7_28 ka0.1 (ct_E7 ka0) rfl rfl rfl (Nat.le_of_ble_eq_true rfl) ⟨rfl, rfl, Nat.le_of_ble_eq_true rfl, Nat.le_of_ble_eq_true rfl⟩ ⟨Nat.zero_le _, Nat.zero_le _⟩ dX7_takes_207 (fun r27 m26 h => ?_)
                exact ct_zret C hr hlk dX7_takes_210 h.1.1 h.2
abbrev rm_X7_isComplete : Room := { frames := 0, cells := 0, slots := 0, locals := 0 }
set_option maxHeartbeats 4000000 in
set_option maxRecDepth 100000 in
theorem c_X7_isComplete (l : Launch) (D : va_G) (cy : Nat → ClassId) (o : Nat) {a0 : Nat} {Q : Int32 → ct_M → Prop} {m : ct_M} (ka0 : ct_K 7 a0) (h : wp_X7_isComplete a0 Q m) : Met l yX7_isComplete (ct_ws yX7_isComplete cX7_isComplete 1 (some .boolean)) rm_X7_isComplete (va_Pc [.ref (o + a0)] (ct_P D cy o ct_NN m)) (va_Qi Q (ct_P D cy o ct_NN) (fun q => o ≤ q)) 0 0 (fun q => o ≤ q) := by
  refine ct_met l D cy o ct_NN m (by decide) (Nat.le_of_ble_eq_true rfl) (fun p e s mth args below meth c C hr hlk => ?_)
  refine ct_sub [0] [(0, .ref (o + a0))] rfl ?_
  unfold wp_X7_isComplete at h
  refine ct_aload_n C dX7_isComplete_0 0 rfl rfl ?_
  refine gf_X7_15 C dX7_isComplete_1 ka0 ?_
  refine ct_iconst C dX7_isComplete_4 (2 : Int32) (by decide) ?_
  refine ct_icmp_ne C dX7_isComplete_5 19 (by decide) (fun hc1 => ?_) (fun hc1 => ?_)
  · have h := h.1 hc1
    refine ct_iconst C dX7_isComplete_19 (0 : Int32) (by decide) ?_
    exact ct_zret C hr hlk dX7_isComplete_20 (by decide) h
  · have h := h.2 hc1
    refine ct_aload_n C dX7_isComplete_8 0 rfl rfl ?_
    refine gf_X7_22 C dX7_isComplete_9 ka0 ?_
    refine ct_if_le C dX7_isComplete_12 19 (by decide) (fun hc2 => ?_) (fun hc2 => ?_)
    · have h := h.1 hc2
      refine ct_iconst C dX7_isComplete_19 (0 : Int32) (by decide) ?_
      exact ct_zret C hr hlk dX7_isComplete_20 (by decide) h
    · have h := h.2 hc2
      refine ct_iconst C dX7_isComplete_15 (1 : Int32) (by decide) ?_
      refine ct_goto C dX7_isComplete_16 20 (by decide) ?_
      exact ct_zret C hr hlk dX7_isComplete_20 (by decide) h
abbrev rm_X8_firstError : Room := { frames := 3, cells := 0, slots := 0, locals := 63 }
set_option maxHeartbeats 4000000 in
set_option maxRecDepth 100000 in
theorem kb_X8_firstError_47 {p : Program} {l : Launch} {e : Env} {s : State} {mth : MethodId} {args : Array Value} {below : List Frame} {meth : Method} {c : Code} {D : va_G} {cy : Nat → ClassId} {o : Nat} {Q : Int32 → ct_M → Prop} {v0 : Nat} {m : ct_M} (C : ct_Cx p s mth c cX8_firstError 2 args RX8 D cy) (hr : meth.sig.returnType = (some .int)) (hlk : meth.locks = false) (kv0 : ct_K 8 v0) (h : wb_X8_firstError_47 Q v0 m) : ct_J p l e rm_X8_firstError s mth args below meth c 2 D cy o ct_NN 0 0 (MQ below (va_Qi Q (ct_P D cy o ct_NN) (fun q => o ≤ q)) args s 0 0 (fun q => o ≤ q)) m 47 [(0, .ref (o + v0))] [] := by
  unfold wb_X8_firstError_47 at h
  refine ct_aload_n C dX8_firstError_47 0 rfl rfl ?_
  refine gf_X8_18 C dX8_firstError_48 kv0 ?_
  have hk1 := ct_t8_2 kv0
  refine ct_callVi (As := []) (T := TX7) C (c_X7_isComplete l D cy o hk1 h) kv_X8_33 hk1.1 (ct_E7 hk1) rfl rfl rfl (Nat.le_of_ble_eq_true rfl) ⟨rfl, rfl, Nat.le_of_ble_eq_true rfl, Nat.le_of_ble_eq_true rfl⟩ ⟨Nat.zero_le _, Nat.zero_le _⟩ dX8_firstError_51 (fun r3 m2 h => ?_)
  refine ct_if_eq C dX8_firstError_54 62 (by decide) (fun hc4 => ?_) (fun hc4 => ?_)
  · have h := h.1 hc4
    refine ct_aload_n C dX8_firstError_62 0 rfl rfl ?_
    refine gf_X8_22 C dX8_firstError_63 kv0 ?_
    exact ct_ireti C hr hlk dX8_firstError_66 h
  · have h := h.2 hc4
    refine ct_bipush C dX8_firstError_57 (-9 : Int32) (by decide) ?_
    refine ct_goto C dX8_firstError_59 66 (by decide) ?_
    exact ct_ireti C hr hlk dX8_firstError_66 h
set_option maxHeartbeats 4000000 in
set_option maxRecDepth 100000 in
theorem kb_X8_firstError_9 {p : Program} {l : Launch} {e : Env} {s : State} {mth : MethodId} {args : Array Value} {below : List Frame} {meth : Method} {c : Code} {D : va_G} {cy : Nat → ClassId} {o : Nat} {Q : Int32 → ct_M → Prop} (C : ct_Cx p s mth c cX8_firstError 2 args RX8 D cy) (hr : meth.sig.returnType = (some .int)) (hlk : meth.locks = false) : ∀ (n : Nat) (v0 : Nat) (v1 : Int32) (m : ct_M) (kv0 : ct_K 8 v0), wb_X8_firstError_9 Q n v0 v1 m → ct_J p l e rm_X8_firstError s mth args below meth c 2 D cy o ct_NN 0 0 (MQ below (va_Qi Q (ct_P D cy o ct_NN) (fun q => o ≤ q)) args s 0 0 (fun q => o ≤ q)) m 9 [(0, .ref (o + v0)), (1, .int v1)] [] := by
  intro n
  induction n with
  | zero => intro v0 v1 m kv0 h; exact h.elim
  | succ n ih =>
    intro v0 v1 m kv0 h
    unfold wb_X8_firstError_9 at h
    refine ct_iload_n C dX8_firstError_9 1 rfl rfl ?_
    refine ct_aload_n C dX8_firstError_10 0 rfl rfl ?_
    refine gf_X8_22 C dX8_firstError_11 kv0 ?_
    refine ct_icmp_ge C dX8_firstError_14 47 (by decide) (fun hc1 => ?_) (fun hc1 => ?_)
    · have h := h.1 hc1
      refine ct_sub [0] [(0, .ref (o + v0))] rfl ?_
      exact kb_X8_firstError_47 C hr hlk  kv0 h
    · have h := h.2 hc1
      refine ct_iload_n C dX8_firstError_17 1 rfl rfl ?_
      refine ct_bipush C dX8_firstError_18 (60 : Int32) (by decide) ?_
      refine ct_icmp_ge C dX8_firstError_20 47 (by decide) (fun hc2 => ?_) (fun hc2 => ?_)
      · have h := h.1 hc2
        refine ct_sub [0] [(0, .ref (o + v0))] rfl ?_
        exact kb_X8_firstError_47 C hr hlk  kv0 h
      · have h := h.2 hc2
        refine ct_aload_n C dX8_firstError_23 0 rfl rfl ?_
        refine gf_X8_18 C dX8_firstError_24 kv0 ?_
        have hk3 := ct_t8_2 kv0
        refine ct_aload_n C dX8_firstError_27 0 rfl rfl ?_
        refine gf_X8_9 C dX8_firstError_28 kv0 ?_
        have hk4 := ct_t8_0 kv0
        refine ct_iload_n C dX8_firstError_31 1 rfl rfl ?_
        refine ct_cald C dX8_firstError_32 hk4 h.1 ?_
        have h := h.2
        refine ct_callVi (As := [.int (m.1 (v0 + 1) v1.toNatClampNeg)]) (T := TX7) C (c_X7_takes l D cy o hk3 h) kv_X8_29 hk3.1 (ct_E7 hk3) rfl rfl rfl (Nat.le_of_ble_eq_true rfl) ⟨rfl, rfl, Nat.le_of_ble_eq_true rfl, Nat.le_of_ble_eq_true rfl⟩ ⟨Nat.zero_le _, Nat.zero_le _⟩ dX8_firstError_33 (fun r6 m5 h => ?_)
        refine ct_if_ne C dX8_firstError_36 41 (by decide) (fun hc7 => ?_) (fun hc7 => ?_)
        · have h := h.1 hc7
          obtain ⟨x8, ex8⟩ : ∃ z : Int32, z = v1 + (1 : Int32) := ⟨_, rfl⟩
          have h := h x8 ex8
          refine ct_iinc (k := 1) (v := x8) C dX8_firstError_41 [(1, .int x8), (0, .ref (o + v0))] rfl (by rw [ex8]; rfl) (by decide) rfl ?_
          refine ct_goto C dX8_firstError_44 9 (by decide) ?_
          refine ct_sub [1, 0] [(0, .ref (o + v0)), (1, .int x8)] rfl ?_
          exact ih _ _ _ kv0 h
        · have h := h.2 hc7
          refine ct_iload_n C dX8_firstError_39 1 rfl rfl ?_
          exact ct_ireti C hr hlk dX8_firstError_40 h
set_option maxHeartbeats 4000000 in
set_option maxRecDepth 100000 in
theorem c_X8_firstError (l : Launch) (D : va_G) (cy : Nat → ClassId) (o : Nat) {a0 : Nat} {Q : Int32 → ct_M → Prop} {m : ct_M} (ka0 : ct_K 8 a0) (h : wp_X8_firstError a0 Q m) : Met l yX8_firstError (ct_ws yX8_firstError cX8_firstError 2 (some .int)) rm_X8_firstError (va_Pc [.ref (o + a0)] (ct_P D cy o ct_NN m)) (va_Qi Q (ct_P D cy o ct_NN) (fun q => o ≤ q)) 0 0 (fun q => o ≤ q) := by
  refine ct_met l D cy o ct_NN m (by decide) (Nat.le_of_ble_eq_true rfl) (fun p e s mth args below meth c C hr hlk => ?_)
  refine ct_sub [0] [(0, .ref (o + a0))] rfl ?_
  unfold wp_X8_firstError at h
  refine ct_aload_n C dX8_firstError_0 0 rfl rfl ?_
  refine gf_X8_18 C dX8_firstError_1 ka0 ?_
  have hk1 := ct_t8_2 ka0
  refine ct_callVv (As := []) (T := TX7) C (c_X7_begin l D cy o hk1 h) kv_X8_26 hk1.1 (ct_E7 hk1) rfl rfl rfl (Nat.le_of_ble_eq_true rfl) ⟨rfl, rfl, Nat.le_of_ble_eq_true rfl, Nat.le_of_ble_eq_true rfl⟩ ⟨Nat.zero_le _, Nat.zero_le _⟩ dX8_firstError_4 (fun m2 h => ?_)
  refine ct_iconst C dX8_firstError_7 (0 : Int32) (by decide) ?_
  refine ct_istore_n C dX8_firstError_8 [(1, .int (0 : Int32)), (0, .ref (o + a0))] rfl (by decide) rfl ?_
  refine ct_sub [1, 0] [(0, .ref (o + a0)), (1, .int (0 : Int32))] rfl ?_
  obtain ⟨n3, h⟩ := h
  exact kb_X8_firstError_9 C hr hlk  n3 _ _ _ ka0 h
abbrev rm_X11_errorPosition : Room := { frames := 4, cells := 0, slots := 0, locals := 84 }
set_option maxHeartbeats 4000000 in
set_option maxRecDepth 100000 in
theorem c_X11_errorPosition (l : Launch) (D : va_G) (cy : Nat → ClassId) (o : Nat) {a0 : Nat} {Q : Int32 → ct_M → Prop} {m : ct_M} (ka0 : ct_K 11 a0) (h : wp_X11_errorPosition a0 Q m) : Met l yX11_errorPosition (ct_ws yX11_errorPosition cX11_errorPosition 1 (some .int)) rm_X11_errorPosition (va_Pc [.ref (o + a0)] (ct_P D cy o ct_NN m)) (va_Qi Q (ct_P D cy o ct_NN) (fun q => o ≤ q)) 0 0 (fun q => o ≤ q) := by
  refine ct_met l D cy o ct_NN m (by decide) (Nat.le_of_ble_eq_true rfl) (fun p e s mth args below meth c C hr hlk => ?_)
  refine ct_sub [0] [(0, .ref (o + a0))] rfl ?_
  unfold wp_X11_errorPosition at h
  refine ct_aload_n C dX11_errorPosition_0 0 rfl rfl ?_
  refine gf_X11_10 C dX11_errorPosition_1 ka0 ?_
  have hk1 := ct_t11_0 ka0
  refine ct_callVi (As := []) (T := TX8) C (c_X8_firstError l D cy o hk1 h) kv_X11_76 hk1.1 (ct_E8 hk1) rfl rfl rfl (Nat.le_of_ble_eq_true rfl) ⟨rfl, rfl, Nat.le_of_ble_eq_true rfl, Nat.le_of_ble_eq_true rfl⟩ ⟨Nat.zero_le _, Nat.zero_le _⟩ dX11_errorPosition_4 (fun r3 m2 h => ?_)
  exact ct_ireti C hr hlk dX11_errorPosition_7 h
abbrev rm_J7_fill_53178 : Room := { frames := 0, cells := 0, slots := 0, locals := 0 }
set_option maxHeartbeats 4000000 in
set_option maxRecDepth 100000 in
theorem kb_J7_fill_53178_5 {p : Program} {l : Launch} {e : Env} {s : State} {mth : MethodId} {args : Array Value} {below : List Frame} {meth : Method} {c : Code} {D : va_G} {cy : Nat → ClassId} {o : Nat} {Q : ct_M → Prop} (C : ct_Cx p s mth c cJ7_fill_53178 4 args RJ7 D cy) (hr : meth.sig.returnType = none) (hlk : meth.locks = false) : ∀ (n : Nat) (v0 : Nat) (v1 : Int32) (v2 : Int32) (v3 : Int32) (m : ct_M) (kv0 : ct_K 14 v0), wb_J7_fill_53178_5 Q n v0 v1 v2 v3 m → ct_J p l e rm_J7_fill_53178 s mth args below meth c 4 D cy o ct_NN 0 0 (MQ below (va_Qv Q (ct_P D cy o ct_NN) (fun q => o ≤ q)) args s 0 0 (fun q => o ≤ q)) m 5 [(0, .ref (o + v0)), (1, .int v1), (2, .int v2), (3, .int v3)] [] := by
  intro n
  induction n with
  | zero => intro v0 v1 v2 v3 m kv0 h; exact h.elim
  | succ n ih =>
    intro v0 v1 v2 v3 m kv0 h
    unfold wb_J7_fill_53178_5 at h
    refine ct_iload_n C dJ7_fill_53178_5 2 rfl rfl ?_
    refine ct_iload_n C dJ7_fill_53178_6 3 rfl rfl ?_
    refine ct_icmp_ge C dJ7_fill_53178_7 20 (by decide) (fun hc1 => ?_) (fun hc1 => ?_)
    · have h := h.1 hc1
      exact ct_vret C hr hlk dJ7_fill_53178_20 h
    · have h := h.2 hc1
      refine ct_aload_n C dJ7_fill_53178_10 0 rfl rfl ?_
      refine ct_iload_n C dJ7_fill_53178_11 2 rfl rfl ?_
      refine ct_iload_n C dJ7_fill_53178_12 1 rfl rfl ?_
      refine ct_iast C dJ7_fill_53178_13 kv0 h.1 ?_
      have h := h.2
      refine ct_mem (fun m2 em2 => ?_)
      have h := h m2 em2
      obtain ⟨x3, ex3⟩ : ∃ z : Int32, z = v2 + (1 : Int32) := ⟨_, rfl⟩
      have h := h x3 ex3
      refine ct_iinc (k := 2) (v := x3) C dJ7_fill_53178_14 [(2, .int x3), (0, .ref (o + v0)), (1, .int v1), (3, .int v3)] rfl (by rw [ex3]; rfl) (by decide) rfl ?_
      refine ct_goto C dJ7_fill_53178_17 5 (by decide) ?_
      refine ct_sub [1, 2, 0, 3] [(0, .ref (o + v0)), (1, .int v1), (2, .int x3), (3, .int v3)] rfl ?_
      exact ih _ _ _ _ _ kv0 h
set_option maxHeartbeats 4000000 in
set_option maxRecDepth 100000 in
theorem c_J7_fill_53178 (l : Launch) (D : va_G) (cy : Nat → ClassId) (o : Nat) {a0 : Nat} {p1 : Int32} {Q : ct_M → Prop} {m : ct_M} (ka0 : ct_K 14 a0) (h : wp_J7_fill_53178 a0 p1 Q m) : Met l yJ7_fill_53178 (ct_ws yJ7_fill_53178 cJ7_fill_53178 4 none) rm_J7_fill_53178 (va_Pc [.ref (o + a0), .int p1] (ct_P D cy o ct_NN m)) (va_Qv Q (ct_P D cy o ct_NN) (fun q => o ≤ q)) 0 0 (fun q => o ≤ q) := by
  refine ct_met l D cy o ct_NN m (by decide) (Nat.le_of_ble_eq_true rfl) (fun p e s mth args below meth c C hr hlk => ?_)
  refine ct_sub [0, 1] [(0, .ref (o + a0)), (1, .int p1)] rfl ?_
  unfold wp_J7_fill_53178 at h
  refine ct_iconst C dJ7_fill_53178_0 (0 : Int32) (by decide) ?_
  refine ct_istore_n C dJ7_fill_53178_1 [(2, .int (0 : Int32)), (0, .ref (o + a0)), (1, .int p1)] rfl (by decide) rfl ?_
  refine ct_aload_n C dJ7_fill_53178_2 1 rfl rfl ?_
  refine ct_alen14 C dJ7_fill_53178_3 ka0 ?_
  refine ct_topi (fun x1 ex1 => ?_)
  have h := h x1 ex1
  refine ct_istore_n C dJ7_fill_53178_4 [(3, .int x1), (2, .int (0 : Int32)), (0, .ref (o + a0)), (1, .int p1)] rfl (by decide) rfl ?_
  refine ct_sub [2, 3, 1, 0] [(0, .ref (o + a0)), (1, .int p1), (2, .int (0 : Int32)), (3, .int x1)] rfl ?_
  obtain ⟨n2, h⟩ := h
  exact kb_J7_fill_53178_5 C hr hlk  n2 _ _ _ _ _ ka0 h
abbrev rm_X10_clear : Room := { frames := 1, cells := 0, slots := 0, locals := 23 }
set_option maxHeartbeats 4000000 in
set_option maxRecDepth 100000 in
theorem c_X10_clear (l : Launch) (D : va_G) (cy : Nat → ClassId) (o : Nat) {a0 : Nat} {Q : ct_M → Prop} {m : ct_M} (ka0 : ct_K 10 a0) (h : wp_X10_clear a0 Q m) : Met l yX10_clear (ct_ws yX10_clear cX10_clear 1 none) rm_X10_clear (va_Pc [.ref (o + a0)] (ct_P D cy o ct_NN m)) (va_Qv Q (ct_P D cy o ct_NN) (fun q => o ≤ q)) 0 0 (fun q => o ≤ q) := by
  refine ct_met l D cy o ct_NN m (by decide) (Nat.le_of_ble_eq_true rfl) (fun p e s mth args below meth c C hr hlk => ?_)
  refine ct_sub [0] [(0, .ref (o + a0))] rfl ?_
  unfold wp_X10_clear at h
  refine ct_aload_n C dX10_clear_0 0 rfl rfl ?_
  refine gf_X10_9 C dX10_clear_1 ka0 ?_
  have hk1 := ct_t10_0 ka0
  refine ct_iconst C dX10_clear_4 (0 : Int32) (by decide) ?_
  refine ct_callSv (As := [.ref (o + (a0 + 1)), .int (0 : Int32)]) C (c_J7_fill_53178 l D cy o hk1 h) kv_X10_36 rfl rfl (Nat.le_of_ble_eq_true rfl) ⟨rfl, rfl, Nat.le_of_ble_eq_true rfl, Nat.le_of_ble_eq_true rfl⟩ ⟨Nat.zero_le _, Nat.zero_le _⟩ dX10_clear_5 (fun m2 h => ?_)
  refine ct_aload_n C dX10_clear_8 0 rfl rfl ?_
  refine gf_X10_15 C dX10_clear_9 ka0 ?_
  have hk3 := ct_t10_1 ka0
  refine ct_iconst C dX10_clear_12 (0 : Int32) (by decide) ?_
  refine ct_callSv (As := [.ref (o + (a0 + 2)), .int (0 : Int32)]) C (c_J7_fill_53178 l D cy o hk3 h) kv_X10_36 rfl rfl (Nat.le_of_ble_eq_true rfl) ⟨rfl, rfl, Nat.le_of_ble_eq_true rfl, Nat.le_of_ble_eq_true rfl⟩ ⟨Nat.zero_le _, Nat.zero_le _⟩ dX10_clear_13 (fun m4 h => ?_)
  refine ct_aload_n C dX10_clear_16 0 rfl rfl ?_
  refine ct_iconst C dX10_clear_17 (0 : Int32) (by decide) ?_
  refine pf_X10_42 C dX10_clear_18 ka0 ?_
  refine ct_mem (fun m5 em5 => ?_)
  have h := h m5 em5
  refine ct_aload_n C dX10_clear_21 0 rfl rfl ?_
  refine ct_iconst C dX10_clear_22 (0 : Int32) (by decide) ?_
  refine pf_X10_46 C dX10_clear_23 ka0 ?_
  refine ct_mem (fun m6 em6 => ?_)
  have h := h m6 em6
  exact ct_vret C hr hlk dX10_clear_26 h
abbrev rm_X8_digitAt : Room := { frames := 0, cells := 0, slots := 0, locals := 0 }
set_option maxHeartbeats 4000000 in
set_option maxRecDepth 100000 in
theorem c_X8_digitAt (l : Launch) (D : va_G) (cy : Nat → ClassId) (o : Nat) {a0 : Nat} {p1 : Int32} {Q : Int32 → ct_M → Prop} {m : ct_M} (ka0 : ct_K 8 a0) (h : wp_X8_digitAt a0 p1 Q m) : Met l yX8_digitAt (ct_ws yX8_digitAt cX8_digitAt 2 (some .int)) rm_X8_digitAt (va_Pc [.ref (o + a0), .int p1] (ct_P D cy o ct_NN m)) (va_Qi Q (ct_P D cy o ct_NN) (fun q => o ≤ q)) 0 0 (fun q => o ≤ q) := by
  refine ct_met l D cy o ct_NN m (by decide) (Nat.le_of_ble_eq_true rfl) (fun p e s mth args below meth c C hr hlk => ?_)
  refine ct_sub [0, 1] [(0, .ref (o + a0)), (1, .int p1)] rfl ?_
  unfold wp_X8_digitAt at h
  refine ct_iload_n C dX8_digitAt_0 1 rfl rfl ?_
  refine ct_if_lt C dX8_digitAt_1 30 (by decide) (fun hc1 => ?_) (fun hc1 => ?_)
  · have h := h.1 hc1
    refine ct_iconst C dX8_digitAt_30 (0 : Int32) (by decide) ?_
    exact ct_ireti C hr hlk dX8_digitAt_31 h
  · have h := h.2 hc1
    refine ct_iload_n C dX8_digitAt_4 1 rfl rfl ?_
    refine ct_aload_n C dX8_digitAt_5 0 rfl rfl ?_
    refine gf_X8_22 C dX8_digitAt_6 ka0 ?_
    refine ct_icmp_ge C dX8_digitAt_9 30 (by decide) (fun hc2 => ?_) (fun hc2 => ?_)
    · have h := h.1 hc2
      refine ct_iconst C dX8_digitAt_30 (0 : Int32) (by decide) ?_
      exact ct_ireti C hr hlk dX8_digitAt_31 h
    · have h := h.2 hc2
      refine ct_iload_n C dX8_digitAt_12 1 rfl rfl ?_
      refine ct_bipush C dX8_digitAt_13 (60 : Int32) (by decide) ?_
      refine ct_icmp_ge C dX8_digitAt_15 30 (by decide) (fun hc3 => ?_) (fun hc3 => ?_)
      · have h := h.1 hc3
        refine ct_iconst C dX8_digitAt_30 (0 : Int32) (by decide) ?_
        exact ct_ireti C hr hlk dX8_digitAt_31 h
      · have h := h.2 hc3
        refine ct_aload_n C dX8_digitAt_18 0 rfl rfl ?_
        refine gf_X8_9 C dX8_digitAt_19 ka0 ?_
        have hk4 := ct_t8_0 ka0
        refine ct_iload_n C dX8_digitAt_22 1 rfl rfl ?_
        refine ct_cald C dX8_digitAt_23 hk4 h.1 ?_
        have h := h.2
        refine ct_bipush C dX8_digitAt_24 (48 : Int32) (by decide) ?_
        refine ct_isub C dX8_digitAt_26 ?_
        refine ct_goto C dX8_digitAt_27 31 (by decide) ?_
        exact ct_ireti C hr hlk dX8_digitAt_31 h
abbrev rm_X5_clear : Room := { frames := 0, cells := 0, slots := 0, locals := 0 }
set_option maxHeartbeats 4000000 in
set_option maxRecDepth 100000 in
theorem c_X5_clear (l : Launch) (D : va_G) (cy : Nat → ClassId) (o : Nat) {a0 : Nat} {Q : ct_M → Prop} {m : ct_M} (ka0 : ct_K 5 a0) (h : wp_X5_clear a0 Q m) : Met l yX5_clear (ct_ws yX5_clear cX5_clear 1 none) rm_X5_clear (va_Pc [.ref (o + a0)] (ct_P D cy o ct_NN m)) (va_Qv Q (ct_P D cy o ct_NN) (fun q => o ≤ q)) 0 0 (fun q => o ≤ q) := by
  refine ct_met l D cy o ct_NN m (by decide) (Nat.le_of_ble_eq_true rfl) (fun p e s mth args below meth c C hr hlk => ?_)
  refine ct_sub [0] [(0, .ref (o + a0))] rfl ?_
  unfold wp_X5_clear at h
  refine ct_aload_n C dX5_clear_0 0 rfl rfl ?_
  refine ct_iconst C dX5_clear_1 (0 : Int32) (by decide) ?_
  refine pf_X5_25 C dX5_clear_2 ka0 ?_
  refine ct_mem (fun m1 em1 => ?_)
  have h := h m1 em1
  refine ct_aload_n C dX5_clear_5 0 rfl rfl ?_
  refine ct_iconst C dX5_clear_6 (0 : Int32) (by decide) ?_
  refine pf_X5_29 C dX5_clear_7 ka0 ?_
  refine ct_mem (fun m2 em2 => ?_)
  have h := h m2 em2
  exact ct_vret C hr hlk dX5_clear_10 h
abbrev rm_X5_matchLast : Room := { frames := 0, cells := 0, slots := 0, locals := 0 }
set_option maxHeartbeats 4000000 in
set_option maxRecDepth 100000 in
theorem c_X5_matchLast (l : Launch) (D : va_G) (cy : Nat → ClassId) (o : Nat) {a0 : Nat} {Q : ct_M → Prop} {m : ct_M} (ka0 : ct_K 5 a0) (h : wp_X5_matchLast a0 Q m) : Met l yX5_matchLast (ct_ws yX5_matchLast cX5_matchLast 2 none) rm_X5_matchLast (va_Pc [.ref (o + a0)] (ct_P D cy o ct_NN m)) (va_Qv Q (ct_P D cy o ct_NN) (fun q => o ≤ q)) 0 0 (fun q => o ≤ q) := by
  refine ct_met l D cy o ct_NN m (by decide) (Nat.le_of_ble_eq_true rfl) (fun p e s mth args below meth c C hr hlk => ?_)
  refine ct_sub [0] [(0, .ref (o + a0))] rfl ?_
  unfold wp_X5_matchLast at h
  refine ct_aload_n C dX5_matchLast_0 0 rfl rfl ?_
  refine gf_X5_29 C dX5_matchLast_1 ka0 ?_
  refine ct_iconst C dX5_matchLast_4 (1 : Int32) (by decide) ?_
  refine ct_icmp_lt C dX5_matchLast_5 56 (by decide) (fun hc1 => ?_) (fun hc1 => ?_)
  · have h := h.1 hc1
    exact ct_vret C hr hlk dX5_matchLast_56 h
  · have h := h.2 hc1
    refine ct_aload_n C dX5_matchLast_8 0 rfl rfl ?_
    refine gf_X5_29 C dX5_matchLast_9 ka0 ?_
    refine ct_iconst C dX5_matchLast_12 (3 : Int32) (by decide) ?_
    refine ct_icmp_gt C dX5_matchLast_13 56 (by decide) (fun hc2 => ?_) (fun hc2 => ?_)
    · have h := h.1 hc2
      exact ct_vret C hr hlk dX5_matchLast_56 h
    · have h := h.2 hc2
      refine ct_aload_n C dX5_matchLast_16 0 rfl rfl ?_
      refine ct_dup C dX5_matchLast_17 rfl ?_
      refine gf_X5_29 C dX5_matchLast_18 ka0 ?_
      refine ct_iconst C dX5_matchLast_21 (1 : Int32) (by decide) ?_
      refine ct_isub C dX5_matchLast_22 ?_
      refine pf_X5_29 C dX5_matchLast_23 ka0 ?_
      refine ct_mem (fun m3 em3 => ?_)
      have h := h m3 em3
      refine ct_aload_n C dX5_matchLast_26 0 rfl rfl ?_
      refine gf_X5_22 C dX5_matchLast_27 ka0 ?_
      have hk4 := ct_t5_4 ka0
      refine ct_aload_n C dX5_matchLast_30 0 rfl rfl ?_
      refine gf_X5_29 C dX5_matchLast_31 ka0 ?_
      refine ct_iald C dX5_matchLast_34 hk4 h.1 ?_
      have h := h.2
      refine ct_topi (fun x5 ex5 => ?_)
      have h := h x5 ex5
      refine ct_istore_n C dX5_matchLast_35 [(1, .int x5), (0, .ref (o + a0))] rfl (by decide) rfl ?_
      refine ct_iload_n C dX5_matchLast_36 0 rfl rfl ?_
      refine ct_if_lt C dX5_matchLast_37 56 (by decide) (fun hc6 => ?_) (fun hc6 => ?_)
      · have h := h.1 hc6
        exact ct_vret C hr hlk dX5_matchLast_56 h
      · have h := h.2 hc6
        refine ct_iload_n C dX5_matchLast_40 0 rfl rfl ?_
        refine ct_bipush C dX5_matchLast_41 (60 : Int32) (by decide) ?_
        refine ct_icmp_ge C dX5_matchLast_43 56 (by decide) (fun hc7 => ?_) (fun hc7 => ?_)
        · have h := h.1 hc7
          exact ct_vret C hr hlk dX5_matchLast_56 h
        · have h := h.2 hc7
          refine ct_aload_n C dX5_matchLast_46 1 rfl rfl ?_
          refine gf_X5_19 C dX5_matchLast_47 ka0 ?_
          have hk8 := ct_t5_2 ka0
          refine ct_iload_n C dX5_matchLast_50 0 rfl rfl ?_
          refine ct_aload_n C dX5_matchLast_51 1 rfl rfl ?_
          refine gf_X5_25 C dX5_matchLast_52 ka0 ?_
          refine ct_iast C dX5_matchLast_55 hk8 h.1 ?_
          have h := h.2
          refine ct_mem (fun m9 em9 => ?_)
          have h := h m9 em9
          exact ct_vret C hr hlk dX5_matchLast_56 h
abbrev rm_X5_leaveUnmatched : Room := { frames := 0, cells := 0, slots := 0, locals := 0 }
set_option maxHeartbeats 4000000 in
set_option maxRecDepth 100000 in
theorem c_X5_leaveUnmatched (l : Launch) (D : va_G) (cy : Nat → ClassId) (o : Nat) {a0 : Nat} {Q : ct_M → Prop} {m : ct_M} (ka0 : ct_K 5 a0) (h : wp_X5_leaveUnmatched a0 Q m) : Met l yX5_leaveUnmatched (ct_ws yX5_leaveUnmatched cX5_leaveUnmatched 1 none) rm_X5_leaveUnmatched (va_Pc [.ref (o + a0)] (ct_P D cy o ct_NN m)) (va_Qv Q (ct_P D cy o ct_NN) (fun q => o ≤ q)) 0 0 (fun q => o ≤ q) := by
  refine ct_met l D cy o ct_NN m (by decide) (Nat.le_of_ble_eq_true rfl) (fun p e s mth args below meth c C hr hlk => ?_)
  refine ct_sub [0] [(0, .ref (o + a0))] rfl ?_
  unfold wp_X5_leaveUnmatched at h
  refine ct_aload_n C dX5_leaveUnmatched_0 0 rfl rfl ?_
  refine gf_X5_29 C dX5_leaveUnmatched_1 ka0 ?_
  refine ct_if_lt C dX5_leaveUnmatched_4 38 (by decide) (fun hc1 => ?_) (fun hc1 => ?_)
  · have h := h.1 hc1
    exact ct_vret C hr hlk dX5_leaveUnmatched_38 h
  · have h := h.2 hc1
    refine ct_aload_n C dX5_leaveUnmatched_7 0 rfl rfl ?_
    refine gf_X5_29 C dX5_leaveUnmatched_8 ka0 ?_
    refine ct_iconst C dX5_leaveUnmatched_11 (3 : Int32) (by decide) ?_
    refine ct_icmp_ge C dX5_leaveUnmatched_12 38 (by decide) (fun hc2 => ?_) (fun hc2 => ?_)
    · have h := h.1 hc2
      exact ct_vret C hr hlk dX5_leaveUnmatched_38 h
    · have h := h.2 hc2
      refine ct_aload_n C dX5_leaveUnmatched_15 0 rfl rfl ?_
      refine gf_X5_22 C dX5_leaveUnmatched_16 ka0 ?_
      have hk3 := ct_t5_4 ka0
      refine ct_aload_n C dX5_leaveUnmatched_19 0 rfl rfl ?_
      refine gf_X5_29 C dX5_leaveUnmatched_20 ka0 ?_
      refine ct_aload_n C dX5_leaveUnmatched_23 0 rfl rfl ?_
      refine gf_X5_25 C dX5_leaveUnmatched_24 ka0 ?_
      refine ct_iast C dX5_leaveUnmatched_27 hk3 h.1 ?_
      have h := h.2
      refine ct_mem (fun m4 em4 => ?_)
      have h := h m4 em4
      refine ct_aload_n C dX5_leaveUnmatched_28 0 rfl rfl ?_
      refine ct_dup C dX5_leaveUnmatched_29 rfl ?_
      refine gf_X5_29 C dX5_leaveUnmatched_30 ka0 ?_
      refine ct_iconst C dX5_leaveUnmatched_33 (1 : Int32) (by decide) ?_
      refine ct_iadd C dX5_leaveUnmatched_34 ?_
      refine pf_X5_29 C dX5_leaveUnmatched_35 ka0 ?_
      refine ct_mem (fun m5 em5 => ?_)
      have h := h m5 em5
      exact ct_vret C hr hlk dX5_leaveUnmatched_38 h
abbrev rm_X5_add : Room := { frames := 1, cells := 0, slots := 0, locals := 21 }
set_option maxHeartbeats 4000000 in
set_option maxRecDepth 100000 in
theorem kb_X5_add_54 {p : Program} {l : Launch} {e : Env} {s : State} {mth : MethodId} {args : Array Value} {below : List Frame} {meth : Method} {c : Code} {D : va_G} {cy : Nat → ClassId} {o : Nat} {Q : ct_M → Prop} {v0 : Nat} {v1 : Int32} {v2 : Int32} {m : ct_M} (C : ct_Cx p s mth c cX5_add 3 args RX5 D cy) (hr : meth.sig.returnType = none) (hlk : meth.locks = false) (kv0 : ct_K 5 v0) (h : wb_X5_add_54 Q v0 v1 v2 m) : ct_J p l e rm_X5_add s mth args below meth c 3 D cy o ct_NN 0 0 (MQ below (va_Qv Q (ct_P D cy o ct_NN) (fun q => o ≤ q)) args s 0 0 (fun q => o ≤ q)) m 54 [(0, .ref (o + v0)), (1, .int v1), (2, .int v2)] [] := by
  unfold wb_X5_add_54 at h
  refine ct_aload_n C dX5_add_54 0 rfl rfl ?_
  refine gf_X5_9 C dX5_add_55 kv0 ?_
  have hk1 := ct_t5_0 kv0
  refine ct_aload_n C dX5_add_58 0 rfl rfl ?_
  refine gf_X5_25 C dX5_add_59 kv0 ?_
  refine ct_iload_n C dX5_add_62 1 rfl rfl ?_
  refine ct_cast C dX5_add_63 hk1 h.1 ?_
  have h := h.2
  refine ct_mem (fun m2 em2 => ?_)
  have h := h m2 em2
  refine ct_aload_n C dX5_add_64 0 rfl rfl ?_
  refine gf_X5_15 C dX5_add_65 kv0 ?_
  have hk3 := ct_t5_1 kv0
  refine ct_aload_n C dX5_add_68 0 rfl rfl ?_
  refine gf_X5_25 C dX5_add_69 kv0 ?_
  refine ct_iload_n C dX5_add_72 2 rfl rfl ?_
  refine ct_iast C dX5_add_73 hk3 h.1 ?_
  have h := h.2
  refine ct_mem (fun m4 em4 => ?_)
  have h := h m4 em4
  refine ct_aload_n C dX5_add_74 0 rfl rfl ?_
  refine ct_dup C dX5_add_75 rfl ?_
  refine gf_X5_25 C dX5_add_76 kv0 ?_
  refine ct_iconst C dX5_add_79 (1 : Int32) (by decide) ?_
  refine ct_iadd C dX5_add_80 ?_
  refine pf_X5_25 C dX5_add_81 kv0 ?_
  refine ct_mem (fun m5 em5 => ?_)
  have h := h m5 em5
  exact ct_vret C hr hlk dX5_add_84 h
set_option maxHeartbeats 4000000 in
set_option maxRecDepth 100000 in
theorem kb_X5_add_50 {p : Program} {l : Launch} {e : Env} {s : State} {mth : MethodId} {args : Array Value} {below : List Frame} {meth : Method} {c : Code} {D : va_G} {cy : Nat → ClassId} {o : Nat} {Q : ct_M → Prop} {v0 : Nat} {v1 : Int32} {v2 : Int32} {m : ct_M} (C : ct_Cx p s mth c cX5_add 3 args RX5 D cy) (hr : meth.sig.returnType = none) (hlk : meth.locks = false) (kv0 : ct_K 5 v0) (h : wb_X5_add_50 Q v0 v1 v2 m) : ct_J p l e rm_X5_add s mth args below meth c 3 D cy o ct_NN 0 0 (MQ below (va_Qv Q (ct_P D cy o ct_NN) (fun q => o ≤ q)) args s 0 0 (fun q => o ≤ q)) m 50 [(0, .ref (o + v0)), (1, .int v1), (2, .int v2)] [] := by
  unfold wb_X5_add_50 at h
  refine ct_aload_n C dX5_add_50 0 rfl rfl ?_
  refine ct_callVv (As := []) (T := TX5) C (c_X5_leaveUnmatched l D cy o kv0 h) kv_X5_35 kv0.1 (ct_E5 kv0) rfl rfl rfl (Nat.le_of_ble_eq_true rfl) ⟨rfl, rfl, Nat.le_of_ble_eq_true rfl, Nat.le_of_ble_eq_true rfl⟩ ⟨Nat.zero_le _, Nat.zero_le _⟩ dX5_add_51 (fun m1 h => ?_)
  refine ct_sub [0, 1, 2] [(0, .ref (o + v0)), (1, .int v1), (2, .int v2)] rfl ?_
  exact kb_X5_add_54 C hr hlk  kv0 h
set_option maxHeartbeats 4000000 in
set_option maxRecDepth 100000 in
theorem kb_X5_add_32 {p : Program} {l : Launch} {e : Env} {s : State} {mth : MethodId} {args : Array Value} {below : List Frame} {meth : Method} {c : Code} {D : va_G} {cy : Nat → ClassId} {o : Nat} {Q : ct_M → Prop} {v0 : Nat} {v1 : Int32} {v2 : Int32} {m : ct_M} (C : ct_Cx p s mth c cX5_add 3 args RX5 D cy) (hr : meth.sig.returnType = none) (hlk : meth.locks = false) (kv0 : ct_K 5 v0) (h : wb_X5_add_32 Q v0 v1 v2 m) : ct_J p l e rm_X5_add s mth args below meth c 3 D cy o ct_NN 0 0 (MQ below (va_Qv Q (ct_P D cy o ct_NN) (fun q => o ≤ q)) args s 0 0 (fun q => o ≤ q)) m 32 [(0, .ref (o + v0)), (1, .int v1), (2, .int v2)] [] := by
  unfold wb_X5_add_32 at h
  refine ct_iload_n C dX5_add_32 1 rfl rfl ?_
  refine ct_bipush C dX5_add_33 (40 : Int32) (by decide) ?_
  refine ct_icmp_eq C dX5_add_35 50 (by decide) (fun hc1 => ?_) (fun hc1 => ?_)
  · have h := h.1 hc1
    refine ct_sub [0, 1, 2] [(0, .ref (o + v0)), (1, .int v1), (2, .int v2)] rfl ?_
    exact kb_X5_add_50 C hr hlk  kv0 h
  · have h := h.2 hc1
    refine ct_iload_n C dX5_add_38 1 rfl rfl ?_
    refine ct_bipush C dX5_add_39 (124 : Int32) (by decide) ?_
    refine ct_icmp_eq C dX5_add_41 50 (by decide) (fun hc2 => ?_) (fun hc2 => ?_)
    · have h := h.1 hc2
      refine ct_sub [0, 1, 2] [(0, .ref (o + v0)), (1, .int v1), (2, .int v2)] rfl ?_
      exact kb_X5_add_50 C hr hlk  kv0 h
    · have h := h.2 hc2
      refine ct_iload_n C dX5_add_44 1 rfl rfl ?_
      refine ct_bipush C dX5_add_45 (123 : Int32) (by decide) ?_
      refine ct_icmp_ne C dX5_add_47 54 (by decide) (fun hc3 => ?_) (fun hc3 => ?_)
      · have h := h.1 hc3
        refine ct_sub [0, 1, 2] [(0, .ref (o + v0)), (1, .int v1), (2, .int v2)] rfl ?_
        exact kb_X5_add_54 C hr hlk  kv0 h
      · have h := h.2 hc3
        refine ct_sub [0, 1, 2] [(0, .ref (o + v0)), (1, .int v1), (2, .int v2)] rfl ?_
        exact kb_X5_add_50 C hr hlk  kv0 h
set_option maxHeartbeats 4000000 in
set_option maxRecDepth 100000 in
theorem kb_X5_add_28 {p : Program} {l : Launch} {e : Env} {s : State} {mth : MethodId} {args : Array Value} {below : List Frame} {meth : Method} {c : Code} {D : va_G} {cy : Nat → ClassId} {o : Nat} {Q : ct_M → Prop} {v0 : Nat} {v1 : Int32} {v2 : Int32} {m : ct_M} (C : ct_Cx p s mth c cX5_add 3 args RX5 D cy) (hr : meth.sig.returnType = none) (hlk : meth.locks = false) (kv0 : ct_K 5 v0) (h : wb_X5_add_28 Q v0 v1 v2 m) : ct_J p l e rm_X5_add s mth args below meth c 3 D cy o ct_NN 0 0 (MQ below (va_Qv Q (ct_P D cy o ct_NN) (fun q => o ≤ q)) args s 0 0 (fun q => o ≤ q)) m 28 [(0, .ref (o + v0)), (1, .int v1), (2, .int v2)] [] := by
  unfold wb_X5_add_28 at h
  refine ct_aload_n C dX5_add_28 0 rfl rfl ?_
  refine ct_callVv (As := []) (T := TX5) C (c_X5_matchLast l D cy o kv0 h) kv_X5_32 kv0.1 (ct_E5 kv0) rfl rfl rfl (Nat.le_of_ble_eq_true rfl) ⟨rfl, rfl, Nat.le_of_ble_eq_true rfl, Nat.le_of_ble_eq_true rfl⟩ ⟨Nat.zero_le _, Nat.zero_le _⟩ dX5_add_29 (fun m1 h => ?_)
  refine ct_sub [0, 1, 2] [(0, .ref (o + v0)), (1, .int v1), (2, .int v2)] rfl ?_
  exact kb_X5_add_32 C hr hlk  kv0 h
set_option maxHeartbeats 4000000 in
set_option maxRecDepth 100000 in
theorem c_X5_add (l : Launch) (D : va_G) (cy : Nat → ClassId) (o : Nat) {a0 : Nat} {p1 : Int32} {p2 : Int32} {Q : ct_M → Prop} {m : ct_M} (ka0 : ct_K 5 a0) (h : wp_X5_add a0 p1 p2 Q m) : Met l yX5_add (ct_ws yX5_add cX5_add 3 none) rm_X5_add (va_Pc [.ref (o + a0), .int p1, .int p2] (ct_P D cy o ct_NN m)) (va_Qv Q (ct_P D cy o ct_NN) (fun q => o ≤ q)) 0 0 (fun q => o ≤ q) := by
  refine ct_met l D cy o ct_NN m (by decide) (Nat.le_of_ble_eq_true rfl) (fun p e s mth args below meth c C hr hlk => ?_)
  refine ct_sub [0, 1, 2] [(0, .ref (o + a0)), (1, .int p1), (2, .int p2)] rfl ?_
  unfold wp_X5_add at h
  refine ct_aload_n C dX5_add_0 0 rfl rfl ?_
  refine gf_X5_25 C dX5_add_1 ka0 ?_
  refine ct_bipush C dX5_add_4 (60 : Int32) (by decide) ?_
  refine ct_icmp_lt C dX5_add_6 10 (by decide) (fun hc1 => ?_) (fun hc1 => ?_)
  · have h := h.1 hc1
    refine ct_iload_n C dX5_add_10 1 rfl rfl ?_
    refine ct_bipush C dX5_add_11 (124 : Int32) (by decide) ?_
    refine ct_icmp_eq C dX5_add_13 28 (by decide) (fun hc2 => ?_) (fun hc2 => ?_)
    · have h := h.1 hc2
      refine ct_sub [0, 1, 2] [(0, .ref (o + a0)), (1, .int p1), (2, .int p2)] rfl ?_
      exact kb_X5_add_28 C hr hlk  ka0 h
    · have h := h.2 hc2
      refine ct_iload_n C dX5_add_16 1 rfl rfl ?_
      refine ct_bipush C dX5_add_17 (41 : Int32) (by decide) ?_
      refine ct_icmp_eq C dX5_add_19 28 (by decide) (fun hc3 => ?_) (fun hc3 => ?_)
      · have h := h.1 hc3
        refine ct_sub [0, 1, 2] [(0, .ref (o + a0)), (1, .int p1), (2, .int p2)] rfl ?_
        exact kb_X5_add_28 C hr hlk  ka0 h
      · have h := h.2 hc3
        refine ct_iload_n C dX5_add_22 1 rfl rfl ?_
        refine ct_bipush C dX5_add_23 (125 : Int32) (by decide) ?_
        refine ct_icmp_ne C dX5_add_25 32 (by decide) (fun hc4 => ?_) (fun hc4 => ?_)
        · have h := h.1 hc4
          refine ct_sub [0, 1, 2] [(0, .ref (o + a0)), (1, .int p1), (2, .int p2)] rfl ?_
          exact kb_X5_add_32 C hr hlk  ka0 h
        · have h := h.2 hc4
          refine ct_sub [0, 1, 2] [(0, .ref (o + a0)), (1, .int p1), (2, .int p2)] rfl ?_
          exact kb_X5_add_28 C hr hlk  ka0 h
  · have h := h.2 hc1
    exact ct_vret C hr hlk dX5_add_9 h
abbrev rm_X8_fillProgram : Room := { frames := 2, cells := 0, slots := 0, locals := 43 }
set_option maxHeartbeats 4000000 in
set_option maxRecDepth 100000 in
theorem kb_X8_fillProgram_82 {p : Program} {l : Launch} {e : Env} {s : State} {mth : MethodId} {args : Array Value} {below : List Frame} {meth : Method} {c : Code} {D : va_G} {cy : Nat → ClassId} {o : Nat} {Q : Int32 → ct_M → Prop} {v3 : Int32} {m : ct_M} (C : ct_Cx p s mth c cX8_fillProgram 6 args RX8 D cy) (hr : meth.sig.returnType = (some .int)) (hlk : meth.locks = false) (h : wb_X8_fillProgram_82 Q v3 m) : ct_J p l e rm_X8_fillProgram s mth args below meth c 6 D cy o ct_NN 0 0 (MQ below (va_Qi Q (ct_P D cy o ct_NN) (fun q => o ≤ q)) args s 0 0 (fun q => o ≤ q)) m 82 [(3, .int v3)] [] := by
  unfold wb_X8_fillProgram_82 at h
  refine ct_iload_n C dX8_fillProgram_82 0 rfl rfl ?_
  refine ct_iconst C dX8_fillProgram_83 (1 : Int32) (by decide) ?_
  refine ct_iadd C dX8_fillProgram_84 ?_
  exact ct_ireti C hr hlk dX8_fillProgram_85 h
set_option maxHeartbeats 4000000 in
set_option maxRecDepth 100000 in
theorem kb_X8_fillProgram_71 {p : Program} {l : Launch} {e : Env} {s : State} {mth : MethodId} {args : Array Value} {below : List Frame} {meth : Method} {c : Code} {D : va_G} {cy : Nat → ClassId} {o : Nat} {Q : Int32 → ct_M → Prop} {K6 : Nat → Nat → Int32 → ct_M → Prop} {v0 : Nat} {v1 : Nat} {v3 : Int32} {v4 : Int32} {v5 : Int32} {m : ct_M} (C : ct_Cx p s mth c cX8_fillProgram 6 args RX8 D cy) (hr : meth.sig.returnType = (some .int)) (hlk : meth.locks = false) (hK6 : ∀ (v0 : Nat) (v1 : Nat) (v3 : Int32) (m : ct_M), ct_K 8 v0 → ct_K 5 v1 → K6 v0 v1 v3 m → ct_J p l e rm_X8_fillProgram s mth args below meth c 6 D cy o ct_NN 0 0 (MQ below (va_Qi Q (ct_P D cy o ct_NN) (fun q => o ≤ q)) args s 0 0 (fun q => o ≤ q)) m 6 [(0, .ref (o + v0)), (1, .ref (o + v1)), (3, .int v3)] []) (kv0 : ct_K 8 v0) (kv1 : ct_K 5 v1) (h : wb_X8_fillProgram_71 K6 Q v0 v1 v3 v4 v5 m) : ct_J p l e rm_X8_fillProgram s mth args below meth c 6 D cy o ct_NN 0 0 (MQ below (va_Qi Q (ct_P D cy o ct_NN) (fun q => o ≤ q)) args s 0 0 (fun q => o ≤ q)) m 71 [(0, .ref (o + v0)), (1, .ref (o + v1)), (3, .int v3), (4, .int v4), (5, .int v5)] [] := by
  unfold wb_X8_fillProgram_71 at h
  refine ct_aload_n C dX8_fillProgram_71 1 rfl rfl ?_
  refine ct_iload C dX8_fillProgram_72 3 rfl ?_
  refine ct_iload C dX8_fillProgram_74 4 rfl ?_
  refine ct_callVv (As := [.int v4, .int v5]) (T := TX5) C (c_X5_add l D cy o kv1 h) kv_X8_66 kv1.1 (ct_E5 kv1) rfl rfl rfl (Nat.le_of_ble_eq_true rfl) ⟨rfl, rfl, Nat.le_of_ble_eq_true rfl, Nat.le_of_ble_eq_true rfl⟩ ⟨Nat.zero_le _, Nat.zero_le _⟩ dX8_fillProgram_76 (fun m1 h => ?_)
  refine ct_goto C dX8_fillProgram_79 6 (by decide) ?_
  refine ct_sub [0, 1, 2] [(0, .ref (o + v0)), (1, .ref (o + v1)), (3, .int v3)] rfl ?_
  exact hK6 _ _ _ _ kv0 kv1 h
set_option maxHeartbeats 4000000 in
set_option maxRecDepth 100000 in
theorem kb_X8_fillProgram_61 {p : Program} {l : Launch} {e : Env} {s : State} {mth : MethodId} {args : Array Value} {below : List Frame} {meth : Method} {c : Code} {D : va_G} {cy : Nat → ClassId} {o : Nat} {Q : Int32 → ct_M → Prop} {K6 : Nat → Nat → Int32 → ct_M → Prop} {v0 : Nat} {v1 : Nat} {v3 : Int32} {v4 : Int32} {m : ct_M} (C : ct_Cx p s mth c cX8_fillProgram 6 args RX8 D cy) (hr : meth.sig.returnType = (some .int)) (hlk : meth.locks = false) (hK6 : ∀ (v0 : Nat) (v1 : Nat) (v3 : Int32) (m : ct_M), ct_K 8 v0 → ct_K 5 v1 → K6 v0 v1 v3 m → ct_J p l e rm_X8_fillProgram s mth args below meth c 6 D cy o ct_NN 0 0 (MQ below (va_Qi Q (ct_P D cy o ct_NN) (fun q => o ≤ q)) args s 0 0 (fun q => o ≤ q)) m 6 [(0, .ref (o + v0)), (1, .ref (o + v1)), (3, .int v3)] []) (kv0 : ct_K 8 v0) (kv1 : ct_K 5 v1) (h : wb_X8_fillProgram_61 K6 Q v0 v1 v3 v4 m) : ct_J p l e rm_X8_fillProgram s mth args below meth c 6 D cy o ct_NN 0 0 (MQ below (va_Qi Q (ct_P D cy o ct_NN) (fun q => o ≤ q)) args s 0 0 (fun q => o ≤ q)) m 61 [(0, .ref (o + v0)), (1, .ref (o + v1)), (3, .int v3), (4, .int v4)] [] := by
  unfold wb_X8_fillProgram_61 at h
  refine ct_aload_n C dX8_fillProgram_61 0 rfl rfl ?_
  refine ct_iload_n C dX8_fillProgram_62 2 rfl rfl ?_
  refine ct_callVi (As := [.int v3]) (T := TX8) C (c_X8_digitAt l D cy o kv0 h) kv_X8_43 kv0.1 (ct_E8 kv0) rfl rfl rfl (Nat.le_of_ble_eq_true rfl) ⟨rfl, rfl, Nat.le_of_ble_eq_true rfl, Nat.le_of_ble_eq_true rfl⟩ ⟨Nat.zero_le _, Nat.zero_le _⟩ dX8_fillProgram_63 (fun r2 m1 h => ?_)
  refine ct_istore C dX8_fillProgram_66 [(5, .int r2), (0, .ref (o + v0)), (1, .ref (o + v1)), (3, .int v3), (4, .int v4)] (by decide) rfl ?_
  obtain ⟨x3, ex3⟩ : ∃ z : Int32, z = v3 + (1 : Int32) := ⟨_, rfl⟩
  have h := h x3 ex3
  refine ct_iinc (k := 3) (v := x3) C dX8_fillProgram_68 [(3, .int x3), (5, .int r2), (0, .ref (o + v0)), (1, .ref (o + v1)), (4, .int v4)] rfl (by rw [ex3]; rfl) (by decide) rfl ?_
  refine ct_sub [2, 3, 0, 4, 1] [(0, .ref (o + v0)), (1, .ref (o + v1)), (3, .int x3), (4, .int v4), (5, .int r2)] rfl ?_
  exact kb_X8_fillProgram_71 C hr hlk hK6 kv0 kv1 h
set_option maxHeartbeats 4000000 in
set_option maxRecDepth 100000 in
theorem kb_X8_fillProgram_6 {p : Program} {l : Launch} {e : Env} {s : State} {mth : MethodId} {args : Array Value} {below : List Frame} {meth : Method} {c : Code} {D : va_G} {cy : Nat → ClassId} {o : Nat} {Q : Int32 → ct_M → Prop} (C : ct_Cx p s mth c cX8_fillProgram 6 args RX8 D cy) (hr : meth.sig.returnType = (some .int)) (hlk : meth.locks = false) : ∀ (n : Nat) (v0 : Nat) (v1 : Nat) (v3 : Int32) (m : ct_M) (kv0 : ct_K 8 v0) (kv1 : ct_K 5 v1), wb_X8_fillProgram_6 Q n v0 v1 v3 m → ct_J p l e rm_X8_fillProgram s mth args below meth c 6 D cy o ct_NN 0 0 (MQ below (va_Qi Q (ct_P D cy o ct_NN) (fun q => o ≤ q)) args s 0 0 (fun q => o ≤ q)) m 6 [(0, .ref (o + v0)), (1, .ref (o + v1)), (3, .int v3)] [] := by
  intro n
  induction n with
  | zero => intro v0 v1 v3 m kv0 kv1 h; exact h.elim
  | succ n ih =>
    intro v0 v1 v3 m kv0 kv1 h
    unfold wb_X8_fillProgram_6 at h
    refine ct_iload_n C dX8_fillProgram_6 2 rfl rfl ?_
    refine ct_aload_n C dX8_fillProgram_7 0 rfl rfl ?_
    refine gf_X8_22 C dX8_fillProgram_8 kv0 ?_
    refine ct_icmp_ge C dX8_fillProgram_11 82 (by decide) (fun hc1 => ?_) (fun hc1 => ?_)
    · have h := h.1 hc1
      refine ct_sub [2] [(3, .int v3)] rfl ?_
      exact kb_X8_fillProgram_82 C hr hlk   h
    · have h := h.2 hc1
      refine ct_iload_n C dX8_fillProgram_14 2 rfl rfl ?_
      refine ct_bipush C dX8_fillProgram_15 (60 : Int32) (by decide) ?_
      refine ct_icmp_ge C dX8_fillProgram_17 82 (by decide) (fun hc2 => ?_) (fun hc2 => ?_)
      · have h := h.1 hc2
        refine ct_sub [2] [(3, .int v3)] rfl ?_
        exact kb_X8_fillProgram_82 C hr hlk   h
      · have h := h.2 hc2
        refine ct_aload_n C dX8_fillProgram_20 0 rfl rfl ?_
        refine gf_X8_9 C dX8_fillProgram_21 kv0 ?_
        have hk3 := ct_t8_0 kv0
        refine ct_iload_n C dX8_fillProgram_24 2 rfl rfl ?_
        refine ct_cald C dX8_fillProgram_25 hk3 h.1 ?_
        have h := h.2
        refine ct_bipush C dX8_fillProgram_26 (46 : Int32) (by decide) ?_
        refine ct_icmp_eq C dX8_fillProgram_28 82 (by decide) (fun hc4 => ?_) (fun hc4 => ?_)
        · have h := h.1 hc4
          refine ct_sub [2] [(3, .int v3)] rfl ?_
          exact kb_X8_fillProgram_82 C hr hlk   h
        · have h := h.2 hc4
          refine ct_aload_n C dX8_fillProgram_31 0 rfl rfl ?_
          refine gf_X8_9 C dX8_fillProgram_32 kv0 ?_
          refine ct_iload_n C dX8_fillProgram_35 2 rfl rfl ?_
          refine ct_cald C dX8_fillProgram_36 hk3 h.1 ?_
          have h := h.2
          refine ct_topi (fun x5 ex5 => ?_)
          have h := h x5 ex5
          refine ct_istore C dX8_fillProgram_37 [(4, .int x5), (0, .ref (o + v0)), (1, .ref (o + v1)), (3, .int v3)] (by decide) rfl ?_
          obtain ⟨x6, ex6⟩ : ∃ z : Int32, z = v3 + (1 : Int32) := ⟨_, rfl⟩
          have h := h x6 ex6
          refine ct_iinc (k := 3) (v := x6) C dX8_fillProgram_39 [(3, .int x6), (4, .int x5), (0, .ref (o + v0)), (1, .ref (o + v1))] rfl (by rw [ex6]; rfl) (by decide) rfl ?_
          refine ct_iconst C dX8_fillProgram_42 (0 : Int32) (by decide) ?_
          refine ct_istore C dX8_fillProgram_43 [(5, .int (0 : Int32)), (3, .int x6), (4, .int x5), (0, .ref (o + v0)), (1, .ref (o + v1))] (by decide) rfl ?_
          refine ct_iload C dX8_fillProgram_45 2 rfl ?_
          refine ct_callSi (As := [.int x5]) C (c_X7_wantsCell l D cy o  h) kv_X8_60 rfl rfl (Nat.le_of_ble_eq_true rfl) ⟨rfl, rfl, Nat.le_of_ble_eq_true rfl, Nat.le_of_ble_eq_true rfl⟩ ⟨Nat.zero_le _, Nat.zero_le _⟩ dX8_fillProgram_47 (fun r8 m7 h => ?_)
          refine ct_if_ne C dX8_fillProgram_50 61 (by decide) (fun hc9 => ?_) (fun hc9 => ?_)
          · have h := h.1 hc9
            refine ct_sub [3, 4, 1, 2] [(0, .ref (o + v0)), (1, .ref (o + v1)), (3, .int x6), (4, .int x5)] rfl ?_
            exact kb_X8_fillProgram_61 C hr hlk ih kv0 kv1 h
          · have h := h.2 hc9
            refine ct_iload C dX8_fillProgram_53 2 rfl ?_
            refine ct_callSi (As := [.int x5]) C (c_X7_wantsNumber l D cy o  h) kv_X8_63 rfl rfl (Nat.le_of_ble_eq_true rfl) ⟨rfl, rfl, Nat.le_of_ble_eq_true rfl, Nat.le_of_ble_eq_true rfl⟩ ⟨Nat.zero_le _, Nat.zero_le _⟩ dX8_fillProgram_55 (fun r11 m10 h => ?_)
            refine ct_if_eq C dX8_fillProgram_58 71 (by decide) (fun hc12 => ?_) (fun hc12 => ?_)
            · have h := h.1 hc12
              refine ct_sub [3, 4, 1, 2, 0] [(0, .ref (o + v0)), (1, .ref (o + v1)), (3, .int x6), (4, .int x5), (5, .int (0 : Int32))] rfl ?_
              exact kb_X8_fillProgram_71 C hr hlk ih kv0 kv1 h
            · have h := h.2 hc12
              refine ct_sub [3, 4, 1, 2] [(0, .ref (o + v0)), (1, .ref (o + v1)), (3, .int x6), (4, .int x5)] rfl ?_
              exact kb_X8_fillProgram_61 C hr hlk ih kv0 kv1 h
set_option maxHeartbeats 4000000 in
set_option maxRecDepth 100000 in
theorem c_X8_fillProgram (l : Launch) (D : va_G) (cy : Nat → ClassId) (o : Nat) {a0 : Nat} {a1 : Nat} {p2 : Int32} {Q : Int32 → ct_M → Prop} {m : ct_M} (ka0 : ct_K 8 a0) (ka1 : ct_K 5 a1) (h : wp_X8_fillProgram a0 a1 p2 Q m) : Met l yX8_fillProgram (ct_ws yX8_fillProgram cX8_fillProgram 6 (some .int)) rm_X8_fillProgram (va_Pc [.ref (o + a0), .ref (o + a1), .int p2] (ct_P D cy o ct_NN m)) (va_Qi Q (ct_P D cy o ct_NN) (fun q => o ≤ q)) 0 0 (fun q => o ≤ q) := by
  refine ct_met l D cy o ct_NN m (by decide) (Nat.le_of_ble_eq_true rfl) (fun p e s mth args below meth c C hr hlk => ?_)
  refine ct_sub [0, 1, 2] [(0, .ref (o + a0)), (1, .ref (o + a1)), (2, .int p2)] rfl ?_
  unfold wp_X8_fillProgram at h
  refine ct_aload_n C dX8_fillProgram_0 1 rfl rfl ?_
  refine ct_callVv (As := []) (T := TX5) C (c_X5_clear l D cy o ka1 h) kv_X8_55 ka1.1 (ct_E5 ka1) rfl rfl rfl (Nat.le_of_ble_eq_true rfl) ⟨rfl, rfl, Nat.le_of_ble_eq_true rfl, Nat.le_of_ble_eq_true rfl⟩ ⟨Nat.zero_le _, Nat.zero_le _⟩ dX8_fillProgram_1 (fun m1 h => ?_)
  refine ct_iload_n C dX8_fillProgram_4 2 rfl rfl ?_
  refine ct_istore_n C dX8_fillProgram_5 [(3, .int p2), (0, .ref (o + a0)), (1, .ref (o + a1)), (2, .int p2)] rfl (by decide) rfl ?_
  refine ct_sub [1, 2, 0] [(0, .ref (o + a0)), (1, .ref (o + a1)), (3, .int p2)] rfl ?_
  obtain ⟨n2, h⟩ := h
  exact kb_X8_fillProgram_6 C hr hlk  n2 _ _ _ _ ka0 ka1 h
abbrev rm_X9_become : Room := { frames := 0, cells := 0, slots := 0, locals := 0 }
set_option maxHeartbeats 4000000 in
set_option maxRecDepth 100000 in
theorem c_X9_become (l : Launch) (D : va_G) (cy : Nat → ClassId) (o : Nat) {a0 : Nat} {p1 : Int32} {Q : ct_M → Prop} {m : ct_M} (ka0 : ct_K 9 a0) (h : wp_X9_become a0 p1 Q m) : Met l yX9_become (ct_ws yX9_become cX9_become 2 none) rm_X9_become (va_Pc [.ref (o + a0), .int p1] (ct_P D cy o ct_NN m)) (va_Qv Q (ct_P D cy o ct_NN) (fun q => o ≤ q)) 0 0 (fun q => o ≤ q) := by
  refine ct_met l D cy o ct_NN m (by decide) (Nat.le_of_ble_eq_true rfl) (fun p e s mth args below meth c C hr hlk => ?_)
  refine ct_sub [0, 1] [(0, .ref (o + a0)), (1, .int p1)] rfl ?_
  unfold wp_X9_become at h
  refine ct_aload_n C dX9_become_0 0 rfl rfl ?_
  refine ct_iload_n C dX9_become_1 1 rfl rfl ?_
  refine pf_X9_32 C dX9_become_2 ka0 ?_
  refine ct_mem (fun m1 em1 => ?_)
  have h := h m1 em1
  refine ct_aload_n C dX9_become_5 0 rfl rfl ?_
  refine ct_iconst C dX9_become_6 (0 : Int32) (by decide) ?_
  refine pf_X9_36 C dX9_become_7 ka0 ?_
  refine ct_mem (fun m2 em2 => ?_)
  have h := h m2 em2
  refine ct_aload_n C dX9_become_10 0 rfl rfl ?_
  refine ct_iconst C dX9_become_11 (0 : Int32) (by decide) ?_
  refine pf_X9_39 C dX9_become_12 ka0 ?_
  refine ct_mem (fun m3 em3 => ?_)
  have h := h m3 em3
  refine ct_aload_n C dX9_become_15 0 rfl rfl ?_
  refine gf_X9_12 C dX9_become_16 ka0 ?_
  have hk4 := ct_t9_6 ka0
  refine ct_iconst C dX9_become_19 (0 : Int32) (by decide) ?_
  refine pf_X9_42 C dX9_become_20 hk4 ?_
  refine ct_mem (fun m5 em5 => ?_)
  have h := h m5 em5
  refine ct_aload_n C dX9_become_23 0 rfl rfl ?_
  refine gf_X9_18 C dX9_become_24 ka0 ?_
  have hk6 := ct_t9_7 ka0
  refine ct_iconst C dX9_become_27 (0 : Int32) (by decide) ?_
  refine pf_X9_42 C dX9_become_28 hk6 ?_
  refine ct_mem (fun m7 em7 => ?_)
  have h := h m7 em7
  refine ct_aload_n C dX9_become_31 0 rfl rfl ?_
  refine ct_iconst C dX9_become_32 (0 : Int32) (by decide) ?_
  refine pf_X9_45 C dX9_become_33 ka0 ?_
  refine ct_mem (fun m8 em8 => ?_)
  have h := h m8 em8
  exact ct_vret C hr hlk dX9_become_36 h
abbrev rm_X10_addThread : Room := { frames := 1, cells := 0, slots := 0, locals := 21 }
set_option maxHeartbeats 4000000 in
set_option maxRecDepth 100000 in
theorem c_X10_addThread (l : Launch) (D : va_G) (cy : Nat → ClassId) (o : Nat) {a0 : Nat} {p1 : Int32} {Q : ct_M → Prop} {m : ct_M} (ka0 : ct_K 10 a0) (h : wp_X10_addThread a0 p1 Q m) : Met l yX10_addThread (ct_ws yX10_addThread cX10_addThread 3 none) rm_X10_addThread (va_Pc [.ref (o + a0), .int p1] (ct_P D cy o ct_NN m)) (va_Qv Q (ct_P D cy o ct_NN) (fun q => o ≤ q)) 0 0 (fun q => o ≤ q) := by
  refine ct_met l D cy o ct_NN m (by decide) (Nat.le_of_ble_eq_true rfl) (fun p e s mth args below meth c C hr hlk => ?_)
  refine ct_sub [0, 1] [(0, .ref (o + a0)), (1, .int p1)] rfl ?_
  unfold wp_X10_addThread at h
  refine ct_aload_n C dX10_addThread_0 0 rfl rfl ?_
  refine gf_X10_42 C dX10_addThread_1 ka0 ?_
  refine ct_if_lt C dX10_addThread_4 50 (by decide) (fun hc1 => ?_) (fun hc1 => ?_)
  · have h := h.1 hc1
    exact ct_vret C hr hlk dX10_addThread_50 h
  · have h := h.2 hc1
    refine ct_aload_n C dX10_addThread_7 0 rfl rfl ?_
    refine gf_X10_42 C dX10_addThread_8 ka0 ?_
    refine ct_iconst C dX10_addThread_11 (3 : Int32) (by decide) ?_
    refine ct_icmp_ge C dX10_addThread_12 50 (by decide) (fun hc2 => ?_) (fun hc2 => ?_)
    · have h := h.1 hc2
      exact ct_vret C hr hlk dX10_addThread_50 h
    · have h := h.2 hc2
      refine ct_aload_n C dX10_addThread_15 0 rfl rfl ?_
      refine gf_X10_20 C dX10_addThread_16 ka0 ?_
      have hk3 := ct_t10_2 ka0
      refine ct_aload_n C dX10_addThread_19 0 rfl rfl ?_
      refine gf_X10_42 C dX10_addThread_20 ka0 ?_
      refine ct_aald19 C dX10_addThread_23 hk3 h.1 ?_
      have hk4 := ct_e19 hk3 (ct_vin h.1)
      have h := h.2
      refine ct_astore_n C dX10_addThread_24 [(2, .ref (o + ((a0 + 3) + 4 + 15 * (m.1 a0 3).toNatClampNeg))), (0, .ref (o + a0)), (1, .int p1)] rfl (by decide) rfl ?_
      refine ct_aload_n C dX10_addThread_25 0 rfl rfl ?_
      refine ct_iload_n C dX10_addThread_26 2 rfl rfl ?_
      refine pf_X10_49 C dX10_addThread_27 hk4 ?_
      refine ct_mem (fun m5 em5 => ?_)
      have h := h m5 em5
      refine ct_aload_n C dX10_addThread_30 0 rfl rfl ?_
      refine ct_iconst C dX10_addThread_31 (0 : Int32) (by decide) ?_
      refine pf_X10_52 C dX10_addThread_32 hk4 ?_
      refine ct_mem (fun m6 em6 => ?_)
      have h := h m6 em6
      refine ct_aload_n C dX10_addThread_35 0 rfl rfl ?_
      refine ct_iconst C dX10_addThread_36 (0 : Int32) (by decide) ?_
      refine ct_callVv (As := [.int (0 : Int32)]) (T := TX9) C (c_X9_become l D cy o hk4 h) kv_X10_55 hk4.1 (ct_E9 hk4) rfl rfl rfl (Nat.le_of_ble_eq_true rfl) ⟨rfl, rfl, Nat.le_of_ble_eq_true rfl, Nat.le_of_ble_eq_true rfl⟩ ⟨Nat.zero_le _, Nat.zero_le _⟩ dX10_addThread_37 (fun m7 h => ?_)
      refine ct_aload_n C dX10_addThread_40 1 rfl rfl ?_
      refine ct_dup C dX10_addThread_41 rfl ?_
      refine gf_X10_42 C dX10_addThread_42 ka0 ?_
      refine ct_iconst C dX10_addThread_45 (1 : Int32) (by decide) ?_
      refine ct_iadd C dX10_addThread_46 ?_
      refine pf_X10_42 C dX10_addThread_47 ka0 ?_
      refine ct_mem (fun m8 em8 => ?_)
      have h := h m8 em8
      exact ct_vret C hr hlk dX10_addThread_50 h
abbrev rm_X8_fill : Room := { frames := 3, cells := 0, slots := 0, locals := 68 }
set_option maxHeartbeats 4000000 in
set_option maxRecDepth 100000 in
theorem kb_X8_fill_33 {p : Program} {l : Launch} {e : Env} {s : State} {mth : MethodId} {args : Array Value} {below : List Frame} {meth : Method} {c : Code} {D : va_G} {cy : Nat → ClassId} {o : Nat} {Q : ct_M → Prop} (C : ct_Cx p s mth c cX8_fill 6 args RX8 D cy) (hr : meth.sig.returnType = none) (hlk : meth.locks = false) : ∀ (n : Nat) (v0 : Nat) (v1 : Nat) (v2 : Nat) (v3 : Int32) (v4 : Int32) (m : ct_M) (kv0 : ct_K 8 v0) (kv1 : ct_K 10 v1) (kv2 : ct_K 18 v2), wb_X8_fill_33 Q n v0 v1 v2 v3 v4 m → ct_J p l e rm_X8_fill s mth args below meth c 6 D cy o ct_NN 0 0 (MQ below (va_Qv Q (ct_P D cy o ct_NN) (fun q => o ≤ q)) args s 0 0 (fun q => o ≤ q)) m 33 [(0, .ref (o + v0)), (1, .ref (o + v1)), (2, .ref (o + v2)), (3, .int v3), (4, .int v4)] [] := by
  intro n
  induction n with
  | zero => intro v0 v1 v2 v3 v4 m kv0 kv1 kv2 h; exact h.elim
  | succ n ih =>
    intro v0 v1 v2 v3 v4 m kv0 kv1 kv2 h
    unfold wb_X8_fill_33 at h
    refine ct_iload C dX8_fill_33 4 rfl ?_
    refine ct_iconst C dX8_fill_35 (3 : Int32) (by decide) ?_
    refine ct_icmp_ge C dX8_fill_36 87 (by decide) (fun hc1 => ?_) (fun hc1 => ?_)
    · have h := h.1 hc1
      exact ct_vret C hr hlk dX8_fill_87 h
    · have h := h.2 hc1
      refine ct_iload C dX8_fill_39 4 rfl ?_
      refine ct_aload_n C dX8_fill_41 2 rfl rfl ?_
      refine ct_alen18 C dX8_fill_42 kv2 ?_
      refine ct_icmp_ge C dX8_fill_43 87 (by decide) (fun hc2 => ?_) (fun hc2 => ?_)
      · have h := h.1 hc2
        exact ct_vret C hr hlk dX8_fill_87 h
      · have h := h.2 hc2
        refine ct_iload_n C dX8_fill_46 3 rfl rfl ?_
        refine ct_aload_n C dX8_fill_47 0 rfl rfl ?_
        refine gf_X8_22 C dX8_fill_48 kv0 ?_
        refine ct_icmp_ge C dX8_fill_51 87 (by decide) (fun hc3 => ?_) (fun hc3 => ?_)
        · have h := h.1 hc3
          exact ct_vret C hr hlk dX8_fill_87 h
        · have h := h.2 hc3
          refine ct_aload_n C dX8_fill_54 0 rfl rfl ?_
          refine ct_iload_n C dX8_fill_55 3 rfl rfl ?_
          refine ct_iconst C dX8_fill_56 (1 : Int32) (by decide) ?_
          refine ct_iadd C dX8_fill_57 ?_
          refine ct_callVi (As := [.int (v3 + (1 : Int32))]) (T := TX8) C (c_X8_digitAt l D cy o kv0 h) kv_X8_43 kv0.1 (ct_E8 kv0) rfl rfl rfl (Nat.le_of_ble_eq_true rfl) ⟨rfl, rfl, Nat.le_of_ble_eq_true rfl, Nat.le_of_ble_eq_true rfl⟩ ⟨Nat.zero_le _, Nat.zero_le _⟩ dX8_fill_58 (fun r5 m4 h => ?_)
          refine ct_istore C dX8_fill_61 [(5, .int r5), (0, .ref (o + v0)), (1, .ref (o + v1)), (2, .ref (o + v2)), (3, .int v3), (4, .int v4)] (by decide) rfl ?_
          refine ct_aload_n C dX8_fill_63 1 rfl rfl ?_
          refine ct_aload_n C dX8_fill_64 3 rfl rfl ?_
          refine ct_iload C dX8_fill_65 5 rfl ?_
          refine ct_aald18 C dX8_fill_67 kv2 h.1 ?_
          have hk6 := ct_e18 kv2 (ct_vin h.1)
          have h := h.2
          refine ct_iload_n C dX8_fill_68 4 rfl rfl ?_
          refine ct_iconst C dX8_fill_69 (2 : Int32) (by decide) ?_
          refine ct_iadd C dX8_fill_70 ?_
          refine ct_callVi (As := [.ref (o + (v2 + 6 + 5 * v4.toNatClampNeg)), .int (v3 + (2 : Int32))]) (T := TX8) C (c_X8_fillProgram l D cy o kv0 hk6 h) kv_X8_47 kv0.1 (ct_E8 kv0) rfl rfl rfl (Nat.le_of_ble_eq_true rfl) ⟨rfl, rfl, Nat.le_of_ble_eq_true rfl, Nat.le_of_ble_eq_true rfl⟩ ⟨Nat.zero_le _, Nat.zero_le _⟩ dX8_fill_71 (fun r8 m7 h => ?_)
          refine ct_istore_n C dX8_fill_74 [(3, .int r8), (5, .int r5), (0, .ref (o + v0)), (1, .ref (o + v1)), (2, .ref (o + v2)), (4, .int v4)] rfl (by decide) rfl ?_
          refine ct_aload_n C dX8_fill_75 3 rfl rfl ?_
          refine ct_iload C dX8_fill_76 1 rfl ?_
          refine ct_callVv (As := [.int r5]) (T := TX10) C (c_X10_addThread l D cy o kv1 h) kv_X8_51 kv1.1 (ct_E10 kv1) rfl rfl rfl (Nat.le_of_ble_eq_true rfl) ⟨rfl, rfl, Nat.le_of_ble_eq_true rfl, Nat.le_of_ble_eq_true rfl⟩ ⟨Nat.zero_le _, Nat.zero_le _⟩ dX8_fill_78 (fun m9 h => ?_)
          obtain ⟨x10, ex10⟩ : ∃ z : Int32, z = v4 + (1 : Int32) := ⟨_, rfl⟩
          have h := h x10 ex10
          refine ct_iinc (k := 5) (v := x10) C dX8_fill_81 [(4, .int x10), (3, .int r8), (5, .int r5), (0, .ref (o + v0)), (1, .ref (o + v1)), (2, .ref (o + v2))] rfl (by rw [ex10]; rfl) (by decide) rfl ?_
          refine ct_goto C dX8_fill_84 33 (by decide) ?_
          refine ct_sub [3, 4, 5, 1, 0] [(0, .ref (o + v0)), (1, .ref (o + v1)), (2, .ref (o + v2)), (3, .int r8), (4, .int x10)] rfl ?_
          exact ih _ _ _ _ _ _ kv0 kv1 kv2 h
set_option maxHeartbeats 4000000 in
set_option maxRecDepth 100000 in
theorem kb_X8_fill_2 {p : Program} {l : Launch} {e : Env} {s : State} {mth : MethodId} {args : Array Value} {below : List Frame} {meth : Method} {c : Code} {D : va_G} {cy : Nat → ClassId} {o : Nat} {Q : ct_M → Prop} (C : ct_Cx p s mth c cX8_fill 6 args RX8 D cy) (hr : meth.sig.returnType = none) (hlk : meth.locks = false) : ∀ (n : Nat) (v0 : Nat) (v1 : Nat) (v2 : Nat) (v3 : Int32) (m : ct_M) (kv0 : ct_K 8 v0) (kv1 : ct_K 10 v1) (kv2 : ct_K 18 v2), wb_X8_fill_2 Q n v0 v1 v2 v3 m → ct_J p l e rm_X8_fill s mth args below meth c 6 D cy o ct_NN 0 0 (MQ below (va_Qv Q (ct_P D cy o ct_NN) (fun q => o ≤ q)) args s 0 0 (fun q => o ≤ q)) m 2 [(0, .ref (o + v0)), (1, .ref (o + v1)), (2, .ref (o + v2)), (3, .int v3)] [] := by
  intro n
  induction n with
  | zero => intro v0 v1 v2 v3 m kv0 kv1 kv2 h; exact h.elim
  | succ n ih =>
    intro v0 v1 v2 v3 m kv0 kv1 kv2 h
    unfold wb_X8_fill_2 at h
    refine ct_iload_n C dX8_fill_2 3 rfl rfl ?_
    refine ct_bipush C dX8_fill_3 (6 : Int32) (by decide) ?_
    refine ct_icmp_ge C dX8_fill_5 27 (by decide) (fun hc1 => ?_) (fun hc1 => ?_)
    · have h := h.1 hc1
      refine ct_bipush C dX8_fill_27 (7 : Int32) (by decide) ?_
      refine ct_istore_n C dX8_fill_29 [(3, .int (7 : Int32)), (0, .ref (o + v0)), (1, .ref (o + v1)), (2, .ref (o + v2))] rfl (by decide) rfl ?_
      refine ct_iconst C dX8_fill_30 (0 : Int32) (by decide) ?_
      refine ct_istore C dX8_fill_31 [(4, .int (0 : Int32)), (3, .int (7 : Int32)), (0, .ref (o + v0)), (1, .ref (o + v1)), (2, .ref (o + v2))] (by decide) rfl ?_
      refine ct_sub [2, 3, 4, 1, 0] [(0, .ref (o + v0)), (1, .ref (o + v1)), (2, .ref (o + v2)), (3, .int (7 : Int32)), (4, .int (0 : Int32))] rfl ?_
      obtain ⟨n2, h⟩ := h
      exact kb_X8_fill_33 C hr hlk  n2 _ _ _ _ _ _ kv0 kv1 kv2 h
    · have h := h.2 hc1
      refine ct_aload_n C dX8_fill_8 1 rfl rfl ?_
      refine gf_X8_37 C dX8_fill_9 kv1 ?_
      have hk3 := ct_t10_0 kv1
      refine ct_iload_n C dX8_fill_12 3 rfl rfl ?_
      refine ct_aload_n C dX8_fill_13 0 rfl rfl ?_
      refine ct_iconst C dX8_fill_14 (1 : Int32) (by decide) ?_
      refine ct_iload_n C dX8_fill_15 3 rfl rfl ?_
      refine ct_iadd C dX8_fill_16 ?_
      refine ct_callVi (As := [.int ((1 : Int32) + v3)]) (T := TX8) C (c_X8_digitAt l D cy o kv0 h) kv_X8_43 kv0.1 (ct_E8 kv0) rfl rfl rfl (Nat.le_of_ble_eq_true rfl) ⟨rfl, rfl, Nat.le_of_ble_eq_true rfl, Nat.le_of_ble_eq_true rfl⟩ ⟨Nat.zero_le _, Nat.zero_le _⟩ dX8_fill_17 (fun r5 m4 h => ?_)
      refine ct_iast C dX8_fill_20 hk3 h.1 ?_
      have h := h.2
      refine ct_mem (fun m6 em6 => ?_)
      have h := h m6 em6
      obtain ⟨x7, ex7⟩ : ∃ z : Int32, z = v3 + (1 : Int32) := ⟨_, rfl⟩
      have h := h x7 ex7
      refine ct_iinc (k := 3) (v := x7) C dX8_fill_21 [(3, .int x7), (0, .ref (o + v0)), (1, .ref (o + v1)), (2, .ref (o + v2))] rfl (by rw [ex7]; rfl) (by decide) rfl ?_
      refine ct_goto C dX8_fill_24 2 (by decide) ?_
      refine ct_sub [1, 2, 3, 0] [(0, .ref (o + v0)), (1, .ref (o + v1)), (2, .ref (o + v2)), (3, .int x7)] rfl ?_
      exact ih _ _ _ _ _ kv0 kv1 kv2 h
set_option maxHeartbeats 4000000 in
set_option maxRecDepth 100000 in
theorem c_X8_fill (l : Launch) (D : va_G) (cy : Nat → ClassId) (o : Nat) {a0 : Nat} {a1 : Nat} {a2 : Nat} {Q : ct_M → Prop} {m : ct_M} (ka0 : ct_K 8 a0) (ka1 : ct_K 10 a1) (ka2 : ct_K 18 a2) (h : wp_X8_fill a0 a1 a2 Q m) : Met l yX8_fill (ct_ws yX8_fill cX8_fill 6 none) rm_X8_fill (va_Pc [.ref (o + a0), .ref (o + a1), .ref (o + a2)] (ct_P D cy o ct_NN m)) (va_Qv Q (ct_P D cy o ct_NN) (fun q => o ≤ q)) 0 0 (fun q => o ≤ q) := by
  refine ct_met l D cy o ct_NN m (by decide) (Nat.le_of_ble_eq_true rfl) (fun p e s mth args below meth c C hr hlk => ?_)
  refine ct_sub [0, 1, 2] [(0, .ref (o + a0)), (1, .ref (o + a1)), (2, .ref (o + a2))] rfl ?_
  unfold wp_X8_fill at h
  refine ct_iconst C dX8_fill_0 (0 : Int32) (by decide) ?_
  refine ct_istore_n C dX8_fill_1 [(3, .int (0 : Int32)), (0, .ref (o + a0)), (1, .ref (o + a1)), (2, .ref (o + a2))] rfl (by decide) rfl ?_
  refine ct_sub [1, 2, 3, 0] [(0, .ref (o + a0)), (1, .ref (o + a1)), (2, .ref (o + a2)), (3, .int (0 : Int32))] rfl ?_
  obtain ⟨n1, h⟩ := h
  exact kb_X8_fill_2 C hr hlk  n1 _ _ _ _ _ ka0 ka1 ka2 h
abbrev rm_X1_forgetAll : Room := { frames := 0, cells := 0, slots := 0, locals := 0 }
set_option maxHeartbeats 4000000 in
set_option maxRecDepth 100000 in
theorem c_X1_forgetAll (l : Launch) (D : va_G) (cy : Nat → ClassId) (o : Nat) {a0 : Nat} {Q : ct_M → Prop} {m : ct_M} (ka0 : ct_K 1 a0) (h : wp_X1_forgetAll a0 Q m) : Met l yX1_forgetAll (ct_ws yX1_forgetAll cX1_forgetAll 1 none) rm_X1_forgetAll (va_Pc [.ref (o + a0)] (ct_P D cy o ct_NN m)) (va_Qv Q (ct_P D cy o ct_NN) (fun q => o ≤ q)) 0 0 (fun q => o ≤ q) := by
  refine ct_met l D cy o ct_NN m (by decide) (Nat.le_of_ble_eq_true rfl) (fun p e s mth args below meth c C hr hlk => ?_)
  refine ct_sub [0] [(0, .ref (o + a0))] rfl ?_
  unfold wp_X1_forgetAll at h
  refine ct_aload_n C dX1_forgetAll_0 0 rfl rfl ?_
  refine ct_iconst C dX1_forgetAll_1 (0 : Int32) (by decide) ?_
  refine pf_X1_28 C dX1_forgetAll_2 ka0 ?_
  refine ct_mem (fun m1 em1 => ?_)
  have h := h m1 em1
  exact ct_vret C hr hlk dX1_forgetAll_5 h
abbrev rm_X11_load : Room := { frames := 4, cells := 0, slots := 0, locals := 93 }
set_option maxHeartbeats 4000000 in
set_option maxRecDepth 100000 in
theorem kb_X11_load_46 {p : Program} {l : Launch} {e : Env} {s : State} {mth : MethodId} {args : Array Value} {below : List Frame} {meth : Method} {c : Code} {D : va_G} {cy : Nat → ClassId} {o : Nat} {Q : Int32 → ct_M → Prop} (C : ct_Cx p s mth c cX11_load 2 args RX11 D cy) (hr : meth.sig.returnType = (some .int)) (hlk : meth.locks = false) : ∀ (n : Nat) (v0 : Nat) (v1 : Int32) (m : ct_M) (kv0 : ct_K 11 v0), wb_X11_load_46 Q n v0 v1 m → ct_J p l e rm_X11_load s mth args below meth c 2 D cy o ct_NN 0 0 (MQ below (va_Qi Q (ct_P D cy o ct_NN) (fun q => o ≤ q)) args s 0 0 (fun q => o ≤ q)) m 46 [(0, .ref (o + v0)), (1, .int v1)] [] := by
  intro n
  induction n with
  | zero => intro v0 v1 m kv0 h; exact h.elim
  | succ n ih =>
    intro v0 v1 m kv0 h
    unfold wb_X11_load_46 at h
    refine ct_iload_n C dX11_load_46 1 rfl rfl ?_
    refine ct_iconst C dX11_load_47 (2 : Int32) (by decide) ?_
    refine ct_icmp_ge C dX11_load_48 64 (by decide) (fun hc1 => ?_) (fun hc1 => ?_)
    · have h := h.1 hc1
      refine ct_aload_n C dX11_load_64 0 rfl rfl ?_
      refine gf_X11_43 C dX11_load_65 kv0 ?_
      have hk2 := ct_t11_2 kv0
      refine gf_X11_90 C dX11_load_68 hk2 ?_
      exact ct_ireti C hr hlk dX11_load_71 h
    · have h := h.2 hc1
      refine ct_aload_n C dX11_load_51 0 rfl rfl ?_
      refine gf_X11_28 C dX11_load_52 kv0 ?_
      have hk3 := ct_t11_5 kv0
      refine ct_iload_n C dX11_load_55 1 rfl rfl ?_
      refine ct_iconst C dX11_load_56 (0 : Int32) (by decide) ?_
      refine ct_zast C dX11_load_57 hk3 h.1 ?_
      have h := h.2
      refine ct_mem (fun m4 em4 => ?_)
      have h := h m4 em4
      obtain ⟨x5, ex5⟩ : ∃ z : Int32, z = v1 + (1 : Int32) := ⟨_, rfl⟩
      have h := h x5 ex5
      refine ct_iinc (k := 1) (v := x5) C dX11_load_58 [(1, .int x5), (0, .ref (o + v0))] rfl (by rw [ex5]; rfl) (by decide) rfl ?_
      refine ct_goto C dX11_load_61 46 (by decide) ?_
      refine ct_sub [1, 0] [(0, .ref (o + v0)), (1, .int x5)] rfl ?_
      exact ih _ _ _ kv0 h
set_option maxHeartbeats 4000000 in
set_option maxRecDepth 100000 in
theorem c_X11_load (l : Launch) (D : va_G) (cy : Nat → ClassId) (o : Nat) {a0 : Nat} {Q : Int32 → ct_M → Prop} {m : ct_M} (ka0 : ct_K 11 a0) (h : wp_X11_load a0 Q m) : Met l yX11_load (ct_ws yX11_load cX11_load 2 (some .int)) rm_X11_load (va_Pc [.ref (o + a0)] (ct_P D cy o ct_NN m)) (va_Qi Q (ct_P D cy o ct_NN) (fun q => o ≤ q)) 0 0 (fun q => o ≤ q) := by
  refine ct_met l D cy o ct_NN m (by decide) (Nat.le_of_ble_eq_true rfl) (fun p e s mth args below meth c C hr hlk => ?_)
  refine ct_sub [0] [(0, .ref (o + a0))] rfl ?_
  unfold wp_X11_load at h
  refine ct_aload_n C dX11_load_0 0 rfl rfl ?_
  refine gf_X11_10 C dX11_load_1 ka0 ?_
  have hk1 := ct_t11_0 ka0
  refine ct_callVi (As := []) (T := TX8) C (c_X8_firstError l D cy o hk1 h) kv_X11_76 hk1.1 (ct_E8 hk1) rfl rfl rfl (Nat.le_of_ble_eq_true rfl) ⟨rfl, rfl, Nat.le_of_ble_eq_true rfl, Nat.le_of_ble_eq_true rfl⟩ ⟨Nat.zero_le _, Nat.zero_le _⟩ dX11_load_4 (fun r3 m2 h => ?_)
  refine ct_bipush C dX11_load_7 (-9 : Int32) (by decide) ?_
  refine ct_icmp_eq C dX11_load_9 15 (by decide) (fun hc4 => ?_) (fun hc4 => ?_)
  · have h := h.1 hc4
    refine ct_aload_n C dX11_load_15 0 rfl rfl ?_
    refine gf_X11_43 C dX11_load_16 ka0 ?_
    have hk5 := ct_t11_2 ka0
    refine ct_callVv (As := []) (T := TX10) C (c_X10_clear l D cy o hk5 h) kv_X11_80 hk5.1 (ct_E10 hk5) rfl rfl rfl (Nat.le_of_ble_eq_true rfl) ⟨rfl, rfl, Nat.le_of_ble_eq_true rfl, Nat.le_of_ble_eq_true rfl⟩ ⟨Nat.zero_le _, Nat.zero_le _⟩ dX11_load_19 (fun m6 h => ?_)
    refine ct_aload_n C dX11_load_22 0 rfl rfl ?_
    refine gf_X11_10 C dX11_load_23 ka0 ?_
    refine ct_aload_n C dX11_load_26 0 rfl rfl ?_
    refine gf_X11_43 C dX11_load_27 ka0 ?_
    refine ct_aload_n C dX11_load_30 0 rfl rfl ?_
    refine gf_X11_18 C dX11_load_31 ka0 ?_
    have hk7 := ct_t11_1 ka0
    refine ct_callVv (As := [.ref (o + (a0 + 26)), .ref (o + (a0 + 5))]) (T := TX8) C (c_X8_fill l D cy o hk1 hk5 hk7 h) kv_X11_83 hk1.1 (ct_E8 hk1) rfl rfl rfl (Nat.le_of_ble_eq_true rfl) ⟨rfl, rfl, Nat.le_of_ble_eq_true rfl, Nat.le_of_ble_eq_true rfl⟩ ⟨Nat.zero_le _, Nat.zero_le _⟩ dX11_load_34 (fun m8 h => ?_)
    refine ct_aload_n C dX11_load_37 0 rfl rfl ?_
    refine gf_X11_50 C dX11_load_38 ka0 ?_
    have hk9 := ct_t11_3 ka0
    refine ct_callVv (As := []) (T := TX1) C (c_X1_forgetAll l D cy o hk9 h) kv_X11_87 hk9.1 (ct_E1 hk9) rfl rfl rfl (Nat.le_of_ble_eq_true rfl) ⟨rfl, rfl, Nat.le_of_ble_eq_true rfl, Nat.le_of_ble_eq_true rfl⟩ ⟨Nat.zero_le _, Nat.zero_le _⟩ dX11_load_41 (fun m10 h => ?_)
    refine ct_iconst C dX11_load_44 (0 : Int32) (by decide) ?_
    refine ct_istore_n C dX11_load_45 [(1, .int (0 : Int32)), (0, .ref (o + a0))] rfl (by decide) rfl ?_
    refine ct_sub [1, 0] [(0, .ref (o + a0)), (1, .int (0 : Int32))] rfl ?_
    obtain ⟨n11, h⟩ := h
    exact kb_X11_load_46 C hr hlk  n11 _ _ _ ka0 h
  · have h := h.2 hc4
    refine ct_bipush C dX11_load_12 (-3 : Int32) (by decide) ?_
    exact ct_ireti C hr hlk dX11_load_14 h
abbrev rm_X11_isCell : Room := { frames := 0, cells := 0, slots := 0, locals := 0 }
set_option maxHeartbeats 4000000 in
set_option maxRecDepth 100000 in
theorem c_X11_isCell (l : Launch) (D : va_G) (cy : Nat → ClassId) (o : Nat) {p0 : Int32} {Q : Int32 → ct_M → Prop} {m : ct_M} (h : wp_X11_isCell p0 Q m) : Met l yX11_isCell (ct_ws yX11_isCell cX11_isCell 1 (some .boolean)) rm_X11_isCell (va_Pc [.int p0] (ct_P D cy o ct_NN m)) (va_Qi Q (ct_P D cy o ct_NN) (fun q => o ≤ q)) 0 0 (fun q => o ≤ q) := by
  refine ct_met l D cy o ct_NN m (by decide) (Nat.le_of_ble_eq_true rfl) (fun p e s mth args below meth c C hr hlk => ?_)
  refine ct_sub [0] [(0, .int p0)] rfl ?_
  unfold wp_X11_isCell at h
  refine ct_iload_n C dX11_isCell_0 0 rfl rfl ?_
  refine ct_if_lt C dX11_isCell_1 14 (by decide) (fun hc1 => ?_) (fun hc1 => ?_)
  · have h := h.1 hc1
    refine ct_iconst C dX11_isCell_14 (0 : Int32) (by decide) ?_
    exact ct_zret C hr hlk dX11_isCell_15 (by decide) h
  · have h := h.2 hc1
    refine ct_iload_n C dX11_isCell_4 0 rfl rfl ?_
    refine ct_bipush C dX11_isCell_5 (6 : Int32) (by decide) ?_
    refine ct_icmp_ge C dX11_isCell_7 14 (by decide) (fun hc2 => ?_) (fun hc2 => ?_)
    · have h := h.1 hc2
      refine ct_iconst C dX11_isCell_14 (0 : Int32) (by decide) ?_
      exact ct_zret C hr hlk dX11_isCell_15 (by decide) h
    · have h := h.2 hc2
      refine ct_iconst C dX11_isCell_10 (1 : Int32) (by decide) ?_
      refine ct_goto C dX11_isCell_11 15 (by decide) ?_
      exact ct_zret C hr hlk dX11_isCell_15 (by decide) h
abbrev rm_X11_value : Room := { frames := 1, cells := 0, slots := 0, locals := 20 }
set_option maxHeartbeats 4000000 in
set_option maxRecDepth 100000 in
theorem c_X11_value (l : Launch) (D : va_G) (cy : Nat → ClassId) (o : Nat) {a0 : Nat} {p1 : Int32} {Q : Int32 → ct_M → Prop} {m : ct_M} (ka0 : ct_K 11 a0) (h : wp_X11_value a0 p1 Q m) : Met l yX11_value (ct_ws yX11_value cX11_value 2 (some .int)) rm_X11_value (va_Pc [.ref (o + a0), .int p1] (ct_P D cy o ct_NN m)) (va_Qi Q (ct_P D cy o ct_NN) (fun q => o ≤ q)) 0 0 (fun q => o ≤ q) := by
  refine ct_met l D cy o ct_NN m (by decide) (Nat.le_of_ble_eq_true rfl) (fun p e s mth args below meth c C hr hlk => ?_)
  refine ct_sub [0, 1] [(0, .ref (o + a0)), (1, .int p1)] rfl ?_
  unfold wp_X11_value at h
  refine ct_iload_n C dX11_value_0 1 rfl rfl ?_
  refine ct_callSi (As := [.int p1]) C (c_X11_isCell l D cy o  h) kv_X11_93 rfl rfl (Nat.le_of_ble_eq_true rfl) ⟨rfl, rfl, Nat.le_of_ble_eq_true rfl, Nat.le_of_ble_eq_true rfl⟩ ⟨Nat.zero_le _, Nat.zero_le _⟩ dX11_value_1 (fun r2 m1 h => ?_)
  refine ct_if_eq C dX11_value_4 22 (by decide) (fun hc3 => ?_) (fun hc3 => ?_)
  · have h := h.1 hc3
    refine ct_iconst C dX11_value_22 (-1 : Int32) (by decide) ?_
    exact ct_ireti C hr hlk dX11_value_23 h
  · have h := h.2 hc3
    refine ct_aload_n C dX11_value_7 0 rfl rfl ?_
    refine gf_X11_43 C dX11_value_8 ka0 ?_
    have hk4 := ct_t11_2 ka0
    refine gf_X11_97 C dX11_value_11 hk4 ?_
    have hk5 := ct_t10_0 hk4
    refine ct_iload_n C dX11_value_14 1 rfl rfl ?_
    refine ct_iald C dX11_value_15 hk5 h.1 ?_
    have h := h.2
    refine ct_bipush C dX11_value_16 (100 : Int32) (by decide) ?_
    refine ct_iadd C dX11_value_18 ?_
    refine ct_goto C dX11_value_19 23 (by decide) ?_
    exact ct_ireti C hr hlk dX11_value_23 h
abbrev rm_X11_version : Room := { frames := 1, cells := 0, slots := 0, locals := 20 }
set_option maxHeartbeats 4000000 in
set_option maxRecDepth 100000 in
theorem c_X11_version (l : Launch) (D : va_G) (cy : Nat → ClassId) (o : Nat) {a0 : Nat} {p1 : Int32} {Q : Int32 → ct_M → Prop} {m : ct_M} (ka0 : ct_K 11 a0) (h : wp_X11_version a0 p1 Q m) : Met l yX11_version (ct_ws yX11_version cX11_version 2 (some .int)) rm_X11_version (va_Pc [.ref (o + a0), .int p1] (ct_P D cy o ct_NN m)) (va_Qi Q (ct_P D cy o ct_NN) (fun q => o ≤ q)) 0 0 (fun q => o ≤ q) := by
  refine ct_met l D cy o ct_NN m (by decide) (Nat.le_of_ble_eq_true rfl) (fun p e s mth args below meth c C hr hlk => ?_)
  refine ct_sub [0, 1] [(0, .ref (o + a0)), (1, .int p1)] rfl ?_
  unfold wp_X11_version at h
  refine ct_iload_n C dX11_version_0 1 rfl rfl ?_
  refine ct_callSi (As := [.int p1]) C (c_X11_isCell l D cy o  h) kv_X11_93 rfl rfl (Nat.le_of_ble_eq_true rfl) ⟨rfl, rfl, Nat.le_of_ble_eq_true rfl, Nat.le_of_ble_eq_true rfl⟩ ⟨Nat.zero_le _, Nat.zero_le _⟩ dX11_version_1 (fun r2 m1 h => ?_)
  refine ct_if_eq C dX11_version_4 19 (by decide) (fun hc3 => ?_) (fun hc3 => ?_)
  · have h := h.1 hc3
    refine ct_iconst C dX11_version_19 (-1 : Int32) (by decide) ?_
    exact ct_ireti C hr hlk dX11_version_20 h
  · have h := h.2 hc3
    refine ct_aload_n C dX11_version_7 0 rfl rfl ?_
    refine gf_X11_43 C dX11_version_8 ka0 ?_
    have hk4 := ct_t11_2 ka0
    refine gf_X11_101 C dX11_version_11 hk4 ?_
    have hk5 := ct_t10_1 hk4
    refine ct_iload_n C dX11_version_14 1 rfl rfl ?_
    refine ct_iald C dX11_version_15 hk5 h.1 ?_
    have h := h.2
    refine ct_goto C dX11_version_16 20 (by decide) ?_
    exact ct_ireti C hr hlk dX11_version_20 h
abbrev rm_X11_threadCount : Room := { frames := 0, cells := 0, slots := 0, locals := 0 }
set_option maxHeartbeats 4000000 in
set_option maxRecDepth 100000 in
theorem c_X11_threadCount (l : Launch) (D : va_G) (cy : Nat → ClassId) (o : Nat) {a0 : Nat} {Q : Int32 → ct_M → Prop} {m : ct_M} (ka0 : ct_K 11 a0) (h : wp_X11_threadCount a0 Q m) : Met l yX11_threadCount (ct_ws yX11_threadCount cX11_threadCount 1 (some .int)) rm_X11_threadCount (va_Pc [.ref (o + a0)] (ct_P D cy o ct_NN m)) (va_Qi Q (ct_P D cy o ct_NN) (fun q => o ≤ q)) 0 0 (fun q => o ≤ q) := by
  refine ct_met l D cy o ct_NN m (by decide) (Nat.le_of_ble_eq_true rfl) (fun p e s mth args below meth c C hr hlk => ?_)
  refine ct_sub [0] [(0, .ref (o + a0))] rfl ?_
  unfold wp_X11_threadCount at h
  refine ct_aload_n C dX11_threadCount_0 0 rfl rfl ?_
  refine gf_X11_43 C dX11_threadCount_1 ka0 ?_
  have hk1 := ct_t11_2 ka0
  refine gf_X11_90 C dX11_threadCount_4 hk1 ?_
  exact ct_ireti C hr hlk dX11_threadCount_7 h
abbrev rm_X10_hasThread : Room := { frames := 0, cells := 0, slots := 0, locals := 0 }
set_option maxHeartbeats 4000000 in
set_option maxRecDepth 100000 in
theorem c_X10_hasThread (l : Launch) (D : va_G) (cy : Nat → ClassId) (o : Nat) {a0 : Nat} {p1 : Int32} {Q : Int32 → ct_M → Prop} {m : ct_M} (ka0 : ct_K 10 a0) (h : wp_X10_hasThread a0 p1 Q m) : Met l yX10_hasThread (ct_ws yX10_hasThread cX10_hasThread 2 (some .boolean)) rm_X10_hasThread (va_Pc [.ref (o + a0), .int p1] (ct_P D cy o ct_NN m)) (va_Qi Q (ct_P D cy o ct_NN) (fun q => o ≤ q)) 0 0 (fun q => o ≤ q) := by
  refine ct_met l D cy o ct_NN m (by decide) (Nat.le_of_ble_eq_true rfl) (fun p e s mth args below meth c C hr hlk => ?_)
  refine ct_sub [0, 1] [(0, .ref (o + a0)), (1, .int p1)] rfl ?_
  unfold wp_X10_hasThread at h
  refine ct_iload_n C dX10_hasThread_0 1 rfl rfl ?_
  refine ct_if_lt C dX10_hasThread_1 21 (by decide) (fun hc1 => ?_) (fun hc1 => ?_)
  · have h := h.1 hc1
    refine ct_iconst C dX10_hasThread_21 (0 : Int32) (by decide) ?_
    exact ct_zret C hr hlk dX10_hasThread_22 (by decide) h
  · have h := h.2 hc1
    refine ct_iload_n C dX10_hasThread_4 1 rfl rfl ?_
    refine ct_aload_n C dX10_hasThread_5 0 rfl rfl ?_
    refine gf_X10_42 C dX10_hasThread_6 ka0 ?_
    refine ct_icmp_ge C dX10_hasThread_9 21 (by decide) (fun hc2 => ?_) (fun hc2 => ?_)
    · have h := h.1 hc2
      refine ct_iconst C dX10_hasThread_21 (0 : Int32) (by decide) ?_
      exact ct_zret C hr hlk dX10_hasThread_22 (by decide) h
    · have h := h.2 hc2
      refine ct_iload_n C dX10_hasThread_12 1 rfl rfl ?_
      refine ct_iconst C dX10_hasThread_13 (3 : Int32) (by decide) ?_
      refine ct_icmp_ge C dX10_hasThread_14 21 (by decide) (fun hc3 => ?_) (fun hc3 => ?_)
      · have h := h.1 hc3
        refine ct_iconst C dX10_hasThread_21 (0 : Int32) (by decide) ?_
        exact ct_zret C hr hlk dX10_hasThread_22 (by decide) h
      · have h := h.2 hc3
        refine ct_iconst C dX10_hasThread_17 (1 : Int32) (by decide) ?_
        refine ct_goto C dX10_hasThread_18 22 (by decide) ?_
        exact ct_zret C hr hlk dX10_hasThread_22 (by decide) h
abbrev rm_X11_state : Room := { frames := 1, cells := 0, slots := 0, locals := 21 }
set_option maxHeartbeats 4000000 in
set_option maxRecDepth 100000 in
theorem c_X11_state (l : Launch) (D : va_G) (cy : Nat → ClassId) (o : Nat) {a0 : Nat} {p1 : Int32} {Q : Int32 → ct_M → Prop} {m : ct_M} (ka0 : ct_K 11 a0) (h : wp_X11_state a0 p1 Q m) : Met l yX11_state (ct_ws yX11_state cX11_state 2 (some .int)) rm_X11_state (va_Pc [.ref (o + a0), .int p1] (ct_P D cy o ct_NN m)) (va_Qi Q (ct_P D cy o ct_NN) (fun q => o ≤ q)) 0 0 (fun q => o ≤ q) := by
  refine ct_met l D cy o ct_NN m (by decide) (Nat.le_of_ble_eq_true rfl) (fun p e s mth args below meth c C hr hlk => ?_)
  refine ct_sub [0, 1] [(0, .ref (o + a0)), (1, .int p1)] rfl ?_
  unfold wp_X11_state at h
  refine ct_aload_n C dX11_state_0 0 rfl rfl ?_
  refine gf_X11_43 C dX11_state_1 ka0 ?_
  have hk1 := ct_t11_2 ka0
  refine ct_iload_n C dX11_state_4 1 rfl rfl ?_
  refine ct_callVi (As := [.int p1]) (T := TX10) C (c_X10_hasThread l D cy o hk1 h) kv_X11_104 hk1.1 (ct_E10 hk1) rfl rfl rfl (Nat.le_of_ble_eq_true rfl) ⟨rfl, rfl, Nat.le_of_ble_eq_true rfl, Nat.le_of_ble_eq_true rfl⟩ ⟨Nat.zero_le _, Nat.zero_le _⟩ dX11_state_5 (fun r3 m2 h => ?_)
  refine ct_if_eq C dX11_state_8 26 (by decide) (fun hc4 => ?_) (fun hc4 => ?_)
  · have h := h.1 hc4
    refine ct_iconst C dX11_state_26 (-1 : Int32) (by decide) ?_
    exact ct_ireti C hr hlk dX11_state_27 h
  · have h := h.2 hc4
    refine ct_aload_n C dX11_state_11 0 rfl rfl ?_
    refine gf_X11_43 C dX11_state_12 ka0 ?_
    refine gf_X11_107 C dX11_state_15 hk1 ?_
    have hk5 := ct_t10_2 hk1
    refine ct_iload_n C dX11_state_18 1 rfl rfl ?_
    refine ct_aald19 C dX11_state_19 hk5 h.1 ?_
    have hk6 := ct_e19 hk5 (ct_vin h.1)
    have h := h.2
    refine gf_X11_111 C dX11_state_20 hk6 ?_
    refine ct_goto C dX11_state_23 27 (by decide) ?_
    exact ct_ireti C hr hlk dX11_state_27 h
