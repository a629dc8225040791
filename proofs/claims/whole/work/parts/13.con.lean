abbrev rm_X10_advance : Room := { frames := 4, cells := 0, slots := 0, locals := 90 }
set_option maxHeartbeats 4000000 in
set_option maxRecDepth 100000 in
theorem kb_X10_advance_46 {p : Program} {l : Launch} {e : Env} {s : State} {mth : MethodId} {args : Array Value} {below : List Frame} {meth : Method} {c : Code} {D : va_G} {cy : Nat → ClassId} {o : Nat} {Q : Int32 → ct_M → Prop} {v0 : Nat} {v1 : Nat} {v2 : Int32} {m : ct_M} (C : ct_Cx p s mth c cX10_advance 3 args RX10 D cy) (hr : meth.sig.returnType = (some .int)) (hlk : meth.locks = false) (kv0 : ct_K 10 v0) (kv1 : ct_K 9 v1) (h : wb_X10_advance_46 Q v0 v1 v2 m) : ct_J p l e rm_X10_advance s mth args below meth c 3 D cy o ct_NN 0 0 (MQ below (va_Qi Q (ct_P D cy o ct_NN) (fun q => o ≤ q)) args s 0 0 (fun q => o ≤ q)) m 46 [(0, .ref (o + v0)), (1, .ref (o + v1)), (2, .int v2)] [] := by
  unfold wb_X10_advance_46 at h
  refine ct_iload_n C dX10_advance_46 2 rfl rfl ?_
  refine ct_if_ne C dX10_advance_47 70 (by decide) (fun hc1 => ?_) (fun hc1 => ?_)
  · have h := h.1 hc1
    refine ct_iload_n C dX10_advance_70 2 rfl rfl ?_
    exact ct_ireti C hr hlk dX10_advance_71 h
  · have h := h.2 hc1
    refine ct_aload_n C dX10_advance_50 1 rfl rfl ?_
    refine gf_X10_84 C dX10_advance_51 kv1 ?_
    have hk2 := ct_t9_0 kv1
    refine ct_aload_n C dX10_advance_54 1 rfl rfl ?_
    refine gf_X10_88 C dX10_advance_55 kv1 ?_
    refine ct_callVi (As := [.int (m.1 v1 5)]) (T := TX5) C (c_X5_has l D cy o hk2 h) kv_X10_91 hk2.1 (ct_E5 hk2) rfl rfl rfl (Nat.le_of_ble_eq_true rfl) ⟨rfl, rfl, Nat.le_of_ble_eq_true rfl, Nat.le_of_ble_eq_true rfl⟩ ⟨Nat.zero_le _, Nat.zero_le _⟩ dX10_advance_58 (fun r4 m3 h => ?_)
    refine ct_if_ne C dX10_advance_61 70 (by decide) (fun hc5 => ?_) (fun hc5 => ?_)
    · have h := h.1 hc5
      refine ct_iload_n C dX10_advance_70 2 rfl rfl ?_
      exact ct_ireti C hr hlk dX10_advance_71 h
    · have h := h.2 hc5
      refine ct_aload_n C dX10_advance_64 0 rfl rfl ?_
      refine ct_aload_n C dX10_advance_65 1 rfl rfl ?_
      refine ct_callVi (As := [.ref (o + v1)]) (T := TX10) C (c_X10_commit l D cy o kv0 kv1 h) kv_X10_105 kv0.1 (ct_E10 kv0) rfl rfl rfl (Nat.le_of_ble_eq_true rfl) ⟨rfl, rfl, Nat.le_of_ble_eq_true rfl, Nat.le_of_ble_eq_true rfl⟩ ⟨Nat.zero_le _, Nat.zero_le _⟩ dX10_advance_66 (fun r7 m6 h => ?_)
      refine ct_istore_n C dX10_advance_69 [(2, .int r7), (0, .ref (o + v0)), (1, .ref (o + v1))] rfl (by decide) rfl ?_
      refine ct_iload_n C dX10_advance_70 0 rfl rfl ?_
      exact ct_ireti C hr hlk dX10_advance_71 h
set_option maxHeartbeats 4000000 in
set_option maxRecDepth 100000 in
theorem c_X10_advance (l : Launch) (D : va_G) (cy : Nat → ClassId) (o : Nat) {a0 : Nat} {a1 : Nat} {Q : Int32 → ct_M → Prop} {m : ct_M} (ka0 : ct_K 10 a0) (ka1 : ct_K 9 a1) (h : wp_X10_advance a0 a1 Q m) : Met l yX10_advance (ct_ws yX10_advance cX10_advance 3 (some .int)) rm_X10_advance (va_Pc [.ref (o + a0), .ref (o + a1)] (ct_P D cy o ct_NN m)) (va_Qi Q (ct_P D cy o ct_NN) (fun q => o ≤ q)) 0 0 (fun q => o ≤ q) := by
  refine ct_met l D cy o ct_NN m (by decide) (Nat.le_of_ble_eq_true rfl) (fun p e s mth args below meth c C hr hlk => ?_)
  refine ct_sub [0, 1] [(0, .ref (o + a0)), (1, .ref (o + a1))] rfl ?_
  unfold wp_X10_advance at h
  refine ct_iconst C dX10_advance_0 (0 : Int32) (by decide) ?_
  refine ct_istore_n C dX10_advance_1 [(2, .int (0 : Int32)), (0, .ref (o + a0)), (1, .ref (o + a1))] rfl (by decide) rfl ?_
  refine ct_aload_n C dX10_advance_2 2 rfl rfl ?_
  refine gf_X10_84 C dX10_advance_3 ka1 ?_
  have hk1 := ct_t9_0 ka1
  refine ct_aload_n C dX10_advance_6 2 rfl rfl ?_
  refine gf_X10_88 C dX10_advance_7 ka1 ?_
  refine ct_callVi (As := [.int (m.1 a1 5)]) (T := TX5) C (c_X5_has l D cy o hk1 h) kv_X10_91 hk1.1 (ct_E5 hk1) rfl rfl rfl (Nat.le_of_ble_eq_true rfl) ⟨rfl, rfl, Nat.le_of_ble_eq_true rfl, Nat.le_of_ble_eq_true rfl⟩ ⟨Nat.zero_le _, Nat.zero_le _⟩ dX10_advance_10 (fun r3 m2 h => ?_)
  refine ct_if_eq C dX10_advance_13 46 (by decide) (fun hc4 => ?_) (fun hc4 => ?_)
  · have h := h.1 hc4
    refine ct_sub [1, 2, 0] [(0, .ref (o + a0)), (1, .ref (o + a1)), (2, .int (0 : Int32))] rfl ?_
    exact kb_X10_advance_46 C hr hlk  ka0 ka1 h
  · have h := h.2 hc4
    refine ct_aload_n C dX10_advance_16 1 rfl rfl ?_
    refine ct_aload_n C dX10_advance_17 2 rfl rfl ?_
    refine ct_aload_n C dX10_advance_18 2 rfl rfl ?_
    refine gf_X10_84 C dX10_advance_19 ka1 ?_
    refine gf_X10_96 C dX10_advance_22 hk1 ?_
    have hk5 := ct_t5_0 hk1
    refine ct_aload_n C dX10_advance_25 2 rfl rfl ?_
    refine gf_X10_88 C dX10_advance_26 ka1 ?_
    refine ct_cald C dX10_advance_29 hk5 h.1 ?_
    have h := h.2
    refine ct_aload_n C dX10_advance_30 2 rfl rfl ?_
    refine gf_X10_84 C dX10_advance_31 ka1 ?_
    refine gf_X10_100 C dX10_advance_34 hk1 ?_
    have hk6 := ct_t5_1 hk1
    refine ct_aload_n C dX10_advance_37 2 rfl rfl ?_
    refine gf_X10_88 C dX10_advance_38 ka1 ?_
    refine ct_iald C dX10_advance_41 hk6 h.1 ?_
    have h := h.2
    refine ct_callVi (As := [.ref (o + a1), .int (m2.1 ((ct_pg a1) + 1) (m2.1 a1 5).toNatClampNeg), .int (m2.1 ((ct_pg a1) + 2) (m2.1 a1 5).toNatClampNeg)]) (T := TX10) C (c_X10_execute l D cy o ka0 ka1 h) kv_X10_101 ka0.1 (ct_E10 ka0) rfl rfl rfl (Nat.le_of_ble_eq_true rfl) ⟨rfl, rfl, Nat.le_of_ble_eq_true rfl, Nat.le_of_ble_eq_true rfl⟩ ⟨Nat.zero_le _, Nat.zero_le _⟩ dX10_advance_42 (fun r8 m7 h => ?_)
    refine ct_istore_n C dX10_advance_45 [(2, .int r8), (0, .ref (o + a0)), (1, .ref (o + a1))] rfl (by decide) rfl ?_
    refine ct_sub [1, 2, 0] [(0, .ref (o + a0)), (1, .ref (o + a1)), (2, .int r8)] rfl ?_
    exact kb_X10_advance_46 C hr hlk  ka0 ka1 h
abbrev rm_X11_step : Room := { frames := 5, cells := 0, slots := 0, locals := 112 }
set_option maxHeartbeats 4000000 in
set_option maxRecDepth 100000 in
theorem c_X11_step (l : Launch) (D : va_G) (cy : Nat → ClassId) (o : Nat) {a0 : Nat} {p1 : Int32} {Q : Int32 → ct_M → Prop} {m : ct_M} (ka0 : ct_K 11 a0) (h : wp_X11_step a0 p1 Q m) : Met l yX11_step (ct_ws yX11_step cX11_step 2 (some .int)) rm_X11_step (va_Pc [.ref (o + a0), .int p1] (ct_P D cy o ct_NN m)) (va_Qi Q (ct_P D cy o ct_NN) (fun q => o ≤ q)) 0 0 (fun q => o ≤ q) := by
  refine ct_met l D cy o ct_NN m (by decide) (Nat.le_of_ble_eq_true rfl) (fun p e s mth args below meth c C hr hlk => ?_)
  refine ct_sub [0, 1] [(0, .ref (o + a0)), (1, .int p1)] rfl ?_
  unfold wp_X11_step at h
  refine ct_aload_n C dX11_step_0 0 rfl rfl ?_
  refine gf_X11_43 C dX11_step_1 ka0 ?_
  have hk1 := ct_t11_2 ka0
  refine ct_iload_n C dX11_step_4 1 rfl rfl ?_
  refine ct_callVi (As := [.int p1]) (T := TX10) C (c_X10_hasThread l D cy o hk1 h) kv_X11_104 hk1.1 (ct_E10 hk1) rfl rfl rfl (Nat.le_of_ble_eq_true rfl) ⟨rfl, rfl, Nat.le_of_ble_eq_true rfl, Nat.le_of_ble_eq_true rfl⟩ ⟨Nat.zero_le _, Nat.zero_le _⟩ dX11_step_5 (fun r3 m2 h => ?_)
  refine ct_if_ne C dX11_step_8 13 (by decide) (fun hc4 => ?_) (fun hc4 => ?_)
  · have h := h.1 hc4
    refine ct_aload_n C dX11_step_13 0 rfl rfl ?_
    refine gf_X11_43 C dX11_step_14 ka0 ?_
    refine gf_X11_107 C dX11_step_17 hk1 ?_
    have hk5 := ct_t10_2 hk1
    refine ct_iload_n C dX11_step_20 1 rfl rfl ?_
    refine ct_aald19 C dX11_step_21 hk5 h.1 ?_
    have hk6 := ct_e19 hk5 (ct_vin h.1)
    have h := h.2
    refine gf_X11_111 C dX11_step_22 hk6 ?_
    refine ct_if_eq C dX11_step_25 31 (by decide) (fun hc7 => ?_) (fun hc7 => ?_)
    · have h := h.1 hc7
      refine ct_aload_n C dX11_step_31 0 rfl rfl ?_
      refine gf_X11_50 C dX11_step_32 ka0 ?_
      have hk8 := ct_t11_3 ka0
      refine ct_aload_n C dX11_step_35 0 rfl rfl ?_
      refine gf_X11_43 C dX11_step_36 ka0 ?_
      refine ct_callVv (As := [.ref (o + (a0 + 26))]) (T := TX1) C (c_X1_remember l D cy o hk8 hk1 h) kv_X11_147 hk8.1 (ct_E1 hk8) rfl rfl rfl (Nat.le_of_ble_eq_true rfl) ⟨rfl, rfl, Nat.le_of_ble_eq_true rfl, Nat.le_of_ble_eq_true rfl⟩ ⟨Nat.zero_le _, Nat.zero_le _⟩ dX11_step_39 (fun m9 h => ?_)
      refine ct_aload_n C dX11_step_42 0 rfl rfl ?_
      refine gf_X11_43 C dX11_step_43 ka0 ?_
      refine ct_aload_n C dX11_step_46 0 rfl rfl ?_
      refine gf_X11_43 C dX11_step_47 ka0 ?_
      refine gf_X11_107 C dX11_step_50 hk1 ?_
      refine ct_iload_n C dX11_step_53 1 rfl rfl ?_
      refine ct_aald19 C dX11_step_54 hk5 h.1 ?_
      have h := h.2
      refine ct_callVi (As := [.ref (o + (((a0 + 26) + 3) + 4 + 15 * p1.toNatClampNeg))]) (T := TX10) C (c_X10_advance l D cy o hk1 hk6 h) kv_X11_151 hk1.1 (ct_E10 hk1) rfl rfl rfl (Nat.le_of_ble_eq_true rfl) ⟨rfl, rfl, Nat.le_of_ble_eq_true rfl, Nat.le_of_ble_eq_true rfl⟩ ⟨Nat.zero_le _, Nat.zero_le _⟩ dX11_step_55 (fun r11 m10 h => ?_)
      exact ct_ireti C hr hlk dX11_step_58 h
    · have h := h.2 hc7
      refine ct_bipush C dX11_step_28 (-3 : Int32) (by decide) ?_
      exact ct_ireti C hr hlk dX11_step_30 h
  · have h := h.2 hc4
    refine ct_iconst C dX11_step_11 (-1 : Int32) (by decide) ?_
    exact ct_ireti C hr hlk dX11_step_12 h
abbrev rm_X11_run : Room := { frames := 5, cells := 0, slots := 0, locals := 112 }
set_option maxHeartbeats 4000000 in
set_option maxRecDepth 100000 in
theorem kb_X11_run_61 {p : Program} {l : Launch} {e : Env} {s : State} {mth : MethodId} {args : Array Value} {below : List Frame} {meth : Method} {c : Code} {D : va_G} {cy : Nat → ClassId} {o : Nat} {Q : Int32 → ct_M → Prop} {K46 : Nat → Int32 → Int32 → Int32 → ct_M → Prop} {v0 : Nat} {v1 : Int32} {v2 : Int32} {m : ct_M} (C : ct_Cx p s mth c cX11_run 4 args RX11 D cy) (hr : meth.sig.returnType = (some .int)) (hlk : meth.locks = false) (hK46 : ∀ (v0 : Nat) (v1 : Int32) (v2 : Int32) (v3 : Int32) (m : ct_M), ct_K 11 v0 → K46 v0 v1 v2 v3 m → ct_J p l e rm_X11_run s mth args below meth c 4 D cy o ct_NN 0 0 (MQ below (va_Qi Q (ct_P D cy o ct_NN) (fun q => o ≤ q)) args s 0 0 (fun q => o ≤ q)) m 46 [(0, .ref (o + v0)), (1, .int v1), (2, .int v2), (3, .int v3)] []) (kv0 : ct_K 11 v0) (h : wb_X11_run_61 K46 Q v0 v1 v2 m) : ct_J p l e rm_X11_run s mth args below meth c 4 D cy o ct_NN 0 0 (MQ below (va_Qi Q (ct_P D cy o ct_NN) (fun q => o ≤ q)) args s 0 0 (fun q => o ≤ q)) m 61 [(0, .ref (o + v0)), (1, .int v1), (2, .int v2)] [] := by
  unfold wb_X11_run_61 at h
  refine ct_aload_n C dX11_run_61 0 rfl rfl ?_
  refine gf_X11_43 C dX11_run_62 kv0 ?_
  have hk1 := ct_t11_2 kv0
  refine ct_aload_n C dX11_run_65 0 rfl rfl ?_
  refine gf_X11_43 C dX11_run_66 kv0 ?_
  refine gf_X11_107 C dX11_run_69 hk1 ?_
  have hk2 := ct_t10_2 hk1
  refine ct_iload_n C dX11_run_72 1 rfl rfl ?_
  refine ct_aald19 C dX11_run_73 hk2 h.1 ?_
  have hk3 := ct_e19 hk2 (ct_vin h.1)
  have h := h.2
  refine ct_callVi (As := [.ref (o + (((v0 + 26) + 3) + 4 + 15 * v1.toNatClampNeg))]) (T := TX10) C (c_X10_advance l D cy o hk1 hk3 h) kv_X11_151 hk1.1 (ct_E10 hk1) rfl rfl rfl (Nat.le_of_ble_eq_true rfl) ⟨rfl, rfl, Nat.le_of_ble_eq_true rfl, Nat.le_of_ble_eq_true rfl⟩ ⟨Nat.zero_le _, Nat.zero_le _⟩ dX11_run_74 (fun r5 m4 h => ?_)
  refine ct_istore_n C dX11_run_77 [(3, .int r5), (0, .ref (o + v0)), (1, .int v1), (2, .int v2)] rfl (by decide) rfl ?_
  obtain ⟨x6, ex6⟩ : ∃ z : Int32, z = v2 + (1 : Int32) := ⟨_, rfl⟩
  have h := h x6 ex6
  refine ct_iinc (k := 3) (v := x6) C dX11_run_78 [(2, .int x6), (3, .int r5), (0, .ref (o + v0)), (1, .int v1)] rfl (by rw [ex6]; rfl) (by decide) rfl ?_
  refine ct_goto C dX11_run_81 46 (by decide) ?_
  refine ct_sub [2, 3, 0, 1] [(0, .ref (o + v0)), (1, .int v1), (2, .int x6), (3, .int r5)] rfl ?_
  exact hK46 _ _ _ _ _ kv0 h
set_option maxHeartbeats 4000000 in
set_option maxRecDepth 100000 in
theorem kb_X11_run_46 {p : Program} {l : Launch} {e : Env} {s : State} {mth : MethodId} {args : Array Value} {below : List Frame} {meth : Method} {c : Code} {D : va_G} {cy : Nat → ClassId} {o : Nat} {Q : Int32 → ct_M → Prop} (C : ct_Cx p s mth c cX11_run 4 args RX11 D cy) (hr : meth.sig.returnType = (some .int)) (hlk : meth.locks = false) : ∀ (n : Nat) (v0 : Nat) (v1 : Int32) (v2 : Int32) (v3 : Int32) (m : ct_M) (kv0 : ct_K 11 v0), wb_X11_run_46 Q n v0 v1 v2 v3 m → ct_J p l e rm_X11_run s mth args below meth c 4 D cy o ct_NN 0 0 (MQ below (va_Qi Q (ct_P D cy o ct_NN) (fun q => o ≤ q)) args s 0 0 (fun q => o ≤ q)) m 46 [(0, .ref (o + v0)), (1, .int v1), (2, .int v2), (3, .int v3)] [] := by
  intro n
  induction n with
  | zero => intro v0 v1 v2 v3 m kv0 h; exact h.elim
  | succ n ih =>
    intro v0 v1 v2 v3 m kv0 h
    unfold wb_X11_run_46 at h
    refine ct_iload_n C dX11_run_46 2 rfl rfl ?_
    refine ct_bipush C dX11_run_47 (60 : Int32) (by decide) ?_
    refine ct_icmp_ge C dX11_run_49 84 (by decide) (fun hc1 => ?_) (fun hc1 => ?_)
    · have h := h.1 hc1
      refine ct_iload_n C dX11_run_84 2 rfl rfl ?_
      exact ct_ireti C hr hlk dX11_run_85 h
    · have h := h.2 hc1
      refine ct_iload_n C dX11_run_52 3 rfl rfl ?_
      refine ct_if_eq C dX11_run_53 61 (by decide) (fun hc2 => ?_) (fun hc2 => ?_)
      · have h := h.1 hc2
        refine ct_sub [0, 1, 2] [(0, .ref (o + v0)), (1, .int v1), (2, .int v2)] rfl ?_
        exact kb_X11_run_61 C hr hlk ih kv0 h
      · have h := h.2 hc2
        refine ct_iload_n C dX11_run_56 3 rfl rfl ?_
        refine ct_iconst C dX11_run_57 (2 : Int32) (by decide) ?_
        refine ct_icmp_ne C dX11_run_58 84 (by decide) (fun hc3 => ?_) (fun hc3 => ?_)
        · have h := h.1 hc3
          refine ct_iload_n C dX11_run_84 2 rfl rfl ?_
          exact ct_ireti C hr hlk dX11_run_85 h
        · have h := h.2 hc3
          refine ct_sub [0, 1, 2] [(0, .ref (o + v0)), (1, .int v1), (2, .int v2)] rfl ?_
          exact kb_X11_run_61 C hr hlk ih kv0 h
set_option maxHeartbeats 4000000 in
set_option maxRecDepth 100000 in
theorem c_X11_run (l : Launch) (D : va_G) (cy : Nat → ClassId) (o : Nat) {a0 : Nat} {p1 : Int32} {Q : Int32 → ct_M → Prop} {m : ct_M} (ka0 : ct_K 11 a0) (h : wp_X11_run a0 p1 Q m) : Met l yX11_run (ct_ws yX11_run cX11_run 4 (some .int)) rm_X11_run (va_Pc [.ref (o + a0), .int p1] (ct_P D cy o ct_NN m)) (va_Qi Q (ct_P D cy o ct_NN) (fun q => o ≤ q)) 0 0 (fun q => o ≤ q) := by
  refine ct_met l D cy o ct_NN m (by decide) (Nat.le_of_ble_eq_true rfl) (fun p e s mth args below meth c C hr hlk => ?_)
  refine ct_sub [0, 1] [(0, .ref (o + a0)), (1, .int p1)] rfl ?_
  unfold wp_X11_run at h
  refine ct_aload_n C dX11_run_0 0 rfl rfl ?_
  refine gf_X11_43 C dX11_run_1 ka0 ?_
  have hk1 := ct_t11_2 ka0
  refine ct_iload_n C dX11_run_4 1 rfl rfl ?_
  refine ct_callVi (As := [.int p1]) (T := TX10) C (c_X10_hasThread l D cy o hk1 h) kv_X11_104 hk1.1 (ct_E10 hk1) rfl rfl rfl (Nat.le_of_ble_eq_true rfl) ⟨rfl, rfl, Nat.le_of_ble_eq_true rfl, Nat.le_of_ble_eq_true rfl⟩ ⟨Nat.zero_le _, Nat.zero_le _⟩ dX11_run_5 (fun r3 m2 h => ?_)
  refine ct_if_ne C dX11_run_8 13 (by decide) (fun hc4 => ?_) (fun hc4 => ?_)
  · have h := h.1 hc4
    refine ct_aload_n C dX11_run_13 0 rfl rfl ?_
    refine gf_X11_43 C dX11_run_14 ka0 ?_
    refine gf_X11_107 C dX11_run_17 hk1 ?_
    have hk5 := ct_t10_2 hk1
    refine ct_iload_n C dX11_run_20 1 rfl rfl ?_
    refine ct_aald19 C dX11_run_21 hk5 h.1 ?_
    have hk6 := ct_e19 hk5 (ct_vin h.1)
    have h := h.2
    refine gf_X11_111 C dX11_run_22 hk6 ?_
    refine ct_if_eq C dX11_run_25 31 (by decide) (fun hc7 => ?_) (fun hc7 => ?_)
    · have h := h.1 hc7
      refine ct_aload_n C dX11_run_31 0 rfl rfl ?_
      refine gf_X11_50 C dX11_run_32 ka0 ?_
      have hk8 := ct_t11_3 ka0
      refine ct_aload_n C dX11_run_35 0 rfl rfl ?_
      refine gf_X11_43 C dX11_run_36 ka0 ?_
      refine ct_callVv (As := [.ref (o + (a0 + 26))]) (T := TX1) C (c_X1_remember l D cy o hk8 hk1 h) kv_X11_147 hk8.1 (ct_E1 hk8) rfl rfl rfl (Nat.le_of_ble_eq_true rfl) ⟨rfl, rfl, Nat.le_of_ble_eq_true rfl, Nat.le_of_ble_eq_true rfl⟩ ⟨Nat.zero_le _, Nat.zero_le _⟩ dX11_run_39 (fun m9 h => ?_)
      refine ct_iconst C dX11_run_42 (0 : Int32) (by decide) ?_
      refine ct_istore_n C dX11_run_43 [(2, .int (0 : Int32)), (0, .ref (o + a0)), (1, .int p1)] rfl (by decide) rfl ?_
      refine ct_iconst C dX11_run_44 (0 : Int32) (by decide) ?_
      refine ct_istore_n C dX11_run_45 [(3, .int (0 : Int32)), (2, .int (0 : Int32)), (0, .ref (o + a0)), (1, .int p1)] rfl (by decide) rfl ?_
      refine ct_sub [2, 3, 1, 0] [(0, .ref (o + a0)), (1, .int p1), (2, .int (0 : Int32)), (3, .int (0 : Int32))] rfl ?_
      obtain ⟨n10, h⟩ := h
      exact kb_X11_run_46 C hr hlk  n10 _ _ _ _ _ ka0 h
    · have h := h.2 hc7
      refine ct_bipush C dX11_run_28 (-3 : Int32) (by decide) ?_
      exact ct_ireti C hr hlk dX11_run_30 h
  · have h := h.2 hc4
    refine ct_iconst C dX11_run_11 (-1 : Int32) (by decide) ?_
    exact ct_ireti C hr hlk dX11_run_12 h
abbrev rm_X11_isValue : Room := { frames := 0, cells := 0, slots := 0, locals := 0 }
set_option maxHeartbeats 4000000 in
set_option maxRecDepth 100000 in
theorem c_X11_isValue (l : Launch) (D : va_G) (cy : Nat → ClassId) (o : Nat) {p0 : Int32} {Q : Int32 → ct_M → Prop} {m : ct_M} (h : wp_X11_isValue p0 Q m) : Met l yX11_isValue (ct_ws yX11_isValue cX11_isValue 1 (some .boolean)) rm_X11_isValue (va_Pc [.int p0] (ct_P D cy o ct_NN m)) (va_Qi Q (ct_P D cy o ct_NN) (fun q => o ≤ q)) 0 0 (fun q => o ≤ q) := by
  refine ct_met l D cy o ct_NN m (by decide) (Nat.le_of_ble_eq_true rfl) (fun p e s mth args below meth c C hr hlk => ?_)
  refine ct_sub [0] [(0, .int p0)] rfl ?_
  unfold wp_X11_isValue at h
  refine ct_iload_n C dX11_isValue_0 0 rfl rfl ?_
  refine ct_bipush C dX11_isValue_1 (-99 : Int32) (by decide) ?_
  refine ct_icmp_lt C dX11_isValue_3 16 (by decide) (fun hc1 => ?_) (fun hc1 => ?_)
  · have h := h.1 hc1
    refine ct_iconst C dX11_isValue_16 (0 : Int32) (by decide) ?_
    exact ct_zret C hr hlk dX11_isValue_17 (by decide) h
  · have h := h.2 hc1
    refine ct_iload_n C dX11_isValue_6 0 rfl rfl ?_
    refine ct_bipush C dX11_isValue_7 (99 : Int32) (by decide) ?_
    refine ct_icmp_gt C dX11_isValue_9 16 (by decide) (fun hc2 => ?_) (fun hc2 => ?_)
    · have h := h.1 hc2
      refine ct_iconst C dX11_isValue_16 (0 : Int32) (by decide) ?_
      exact ct_zret C hr hlk dX11_isValue_17 (by decide) h
    · have h := h.2 hc2
      refine ct_iconst C dX11_isValue_12 (1 : Int32) (by decide) ?_
      refine ct_goto C dX11_isValue_13 17 (by decide) ?_
      exact ct_zret C hr hlk dX11_isValue_17 (by decide) h
abbrev rm_X11_setCell : Room := { frames := 5, cells := 0, slots := 0, locals := 108 }
set_option maxHeartbeats 4000000 in
set_option maxRecDepth 100000 in
theorem c_X11_setCell (l : Launch) (D : va_G) (cy : Nat → ClassId) (o : Nat) {a0 : Nat} {p1 : Int32} {p2 : Int32} {Q : Int32 → ct_M → Prop} {m : ct_M} (ka0 : ct_K 11 a0) (h : wp_X11_setCell a0 p1 p2 Q m) : Met l yX11_setCell (ct_ws yX11_setCell cX11_setCell 3 (some .int)) rm_X11_setCell (va_Pc [.ref (o + a0), .int p1, .int p2] (ct_P D cy o ct_NN m)) (va_Qi Q (ct_P D cy o ct_NN) (fun q => o ≤ q)) 0 0 (fun q => o ≤ q) := by
  refine ct_met l D cy o ct_NN m (by decide) (Nat.le_of_ble_eq_true rfl) (fun p e s mth args below meth c C hr hlk => ?_)
  refine ct_sub [0, 1, 2] [(0, .ref (o + a0)), (1, .int p1), (2, .int p2)] rfl ?_
  unfold wp_X11_setCell at h
  refine ct_iload_n C dX11_setCell_0 1 rfl rfl ?_
  refine ct_callSi (As := [.int p1]) C (c_X11_isCell l D cy o  h) kv_X11_93 rfl rfl (Nat.le_of_ble_eq_true rfl) ⟨rfl, rfl, Nat.le_of_ble_eq_true rfl, Nat.le_of_ble_eq_true rfl⟩ ⟨Nat.zero_le _, Nat.zero_le _⟩ dX11_setCell_1 (fun r2 m1 h => ?_)
  refine ct_if_ne C dX11_setCell_4 9 (by decide) (fun hc3 => ?_) (fun hc3 => ?_)
  · have h := h.1 hc3
    refine ct_iload_n C dX11_setCell_9 2 rfl rfl ?_
    refine ct_callSi (As := [.int p2]) C (c_X11_isValue l D cy o  h) kv_X11_155 rfl rfl (Nat.le_of_ble_eq_true rfl) ⟨rfl, rfl, Nat.le_of_ble_eq_true rfl, Nat.le_of_ble_eq_true rfl⟩ ⟨Nat.zero_le _, Nat.zero_le _⟩ dX11_setCell_10 (fun r5 m4 h => ?_)
    refine ct_if_ne C dX11_setCell_13 19 (by decide) (fun hc6 => ?_) (fun hc6 => ?_)
    · have h := h.1 hc6
      refine ct_aload_n C dX11_setCell_19 0 rfl rfl ?_
      refine gf_X11_50 C dX11_setCell_20 ka0 ?_
      have hk7 := ct_t11_3 ka0
      refine ct_aload_n C dX11_setCell_23 0 rfl rfl ?_
      refine gf_X11_43 C dX11_setCell_24 ka0 ?_
      have hk8 := ct_t11_2 ka0
      refine ct_callVv (As := [.ref (o + (a0 + 26))]) (T := TX1) C (c_X1_remember l D cy o hk7 hk8 h) kv_X11_147 hk7.1 (ct_E1 hk7) rfl rfl rfl (Nat.le_of_ble_eq_true rfl) ⟨rfl, rfl, Nat.le_of_ble_eq_true rfl, Nat.le_of_ble_eq_true rfl⟩ ⟨Nat.zero_le _, Nat.zero_le _⟩ dX11_setCell_27 (fun m9 h => ?_)
      refine ct_aload_n C dX11_setCell_30 0 rfl rfl ?_
      refine gf_X11_43 C dX11_setCell_31 ka0 ?_
      refine ct_iload_n C dX11_setCell_34 1 rfl rfl ?_
      refine ct_iload_n C dX11_setCell_35 2 rfl rfl ?_
      refine ct_callVv (As := [.int p1, .int p2]) (T := TX10) C (c_X10_store l D cy o hk8 h) kv_X11_158 hk8.1 (ct_E10 hk8) rfl rfl rfl (Nat.le_of_ble_eq_true rfl) ⟨rfl, rfl, Nat.le_of_ble_eq_true rfl, Nat.le_of_ble_eq_true rfl⟩ ⟨Nat.zero_le _, Nat.zero_le _⟩ dX11_setCell_36 (fun m10 h => ?_)
      refine ct_aload_n C dX11_setCell_39 0 rfl rfl ?_
      refine gf_X11_43 C dX11_setCell_40 ka0 ?_
      refine gf_X11_101 C dX11_setCell_43 hk8 ?_
      have hk11 := ct_t10_1 hk8
      refine ct_iload_n C dX11_setCell_46 1 rfl rfl ?_
      refine ct_iald C dX11_setCell_47 hk11 h.1 ?_
      have h := h.2
      exact ct_ireti C hr hlk dX11_setCell_48 h
    · have h := h.2 hc6
      refine ct_bipush C dX11_setCell_16 (-2 : Int32) (by decide) ?_
      exact ct_ireti C hr hlk dX11_setCell_18 h
  · have h := h.2 hc3
    refine ct_iconst C dX11_setCell_7 (-1 : Int32) (by decide) ?_
    exact ct_ireti C hr hlk dX11_setCell_8 h
abbrev rm_X10_demand : Room := { frames := 0, cells := 0, slots := 0, locals := 0 }
set_option maxHeartbeats 4000000 in
set_option maxRecDepth 100000 in
theorem c_X10_demand (l : Launch) (D : va_G) (cy : Nat → ClassId) (o : Nat) {a0 : Nat} {p1 : Int32} {p2 : Int32} {p3 : Int32} {Q : ct_M → Prop} {m : ct_M} (ka0 : ct_K 10 a0) (h : wp_X10_demand a0 p1 p2 p3 Q m) : Met l yX10_demand (ct_ws yX10_demand cX10_demand 4 none) rm_X10_demand (va_Pc [.ref (o + a0), .int p1, .int p2, .int p3] (ct_P D cy o ct_NN m)) (va_Qv Q (ct_P D cy o ct_NN) (fun q => o ≤ q)) 0 0 (fun q => o ≤ q) := by
  refine ct_met l D cy o ct_NN m (by decide) (Nat.le_of_ble_eq_true rfl) (fun p e s mth args below meth c C hr hlk => ?_)
  refine ct_sub [0, 1, 2, 3] [(0, .ref (o + a0)), (1, .int p1), (2, .int p2), (3, .int p3)] rfl ?_
  unfold wp_X10_demand at h
  refine ct_aload_n C dX10_demand_0 0 rfl rfl ?_
  refine gf_X10_46 C dX10_demand_1 ka0 ?_
  refine ct_if_lt C dX10_demand_4 55 (by decide) (fun hc1 => ?_) (fun hc1 => ?_)
  · have h := h.1 hc1
    exact ct_vret C hr hlk dX10_demand_55 h
  · have h := h.2 hc1
    refine ct_aload_n C dX10_demand_7 0 rfl rfl ?_
    refine gf_X10_46 C dX10_demand_8 ka0 ?_
    refine ct_iconst C dX10_demand_11 (4 : Int32) (by decide) ?_
    refine ct_icmp_ge C dX10_demand_12 55 (by decide) (fun hc2 => ?_) (fun hc2 => ?_)
    · have h := h.1 hc2
      exact ct_vret C hr hlk dX10_demand_55 h
    · have h := h.2 hc2
      refine ct_aload_n C dX10_demand_15 0 rfl rfl ?_
      refine gf_X10_24 C dX10_demand_16 ka0 ?_
      have hk3 := ct_t10_4 ka0
      refine ct_aload_n C dX10_demand_19 0 rfl rfl ?_
      refine gf_X10_46 C dX10_demand_20 ka0 ?_
      refine ct_iload_n C dX10_demand_23 1 rfl rfl ?_
      refine ct_iast C dX10_demand_24 hk3 h.1 ?_
      have h := h.2
      refine ct_mem (fun m4 em4 => ?_)
      have h := h m4 em4
      refine ct_aload_n C dX10_demand_25 0 rfl rfl ?_
      refine gf_X10_27 C dX10_demand_26 ka0 ?_
      have hk5 := ct_t10_5 ka0
      refine ct_aload_n C dX10_demand_29 0 rfl rfl ?_
      refine gf_X10_46 C dX10_demand_30 ka0 ?_
      refine ct_iload_n C dX10_demand_33 2 rfl rfl ?_
      refine ct_iast C dX10_demand_34 hk5 h.1 ?_
      have h := h.2
      refine ct_mem (fun m6 em6 => ?_)
      have h := h m6 em6
      refine ct_aload_n C dX10_demand_35 0 rfl rfl ?_
      refine gf_X10_30 C dX10_demand_36 ka0 ?_
      have hk7 := ct_t10_6 ka0
      refine ct_aload_n C dX10_demand_39 0 rfl rfl ?_
      refine gf_X10_46 C dX10_demand_40 ka0 ?_
      refine ct_iload_n C dX10_demand_43 3 rfl rfl ?_
      refine ct_iast C dX10_demand_44 hk7 h.1 ?_
      have h := h.2
      refine ct_mem (fun m8 em8 => ?_)
      have h := h m8 em8
      refine ct_aload_n C dX10_demand_45 0 rfl rfl ?_
      refine ct_dup C dX10_demand_46 rfl ?_
      refine gf_X10_46 C dX10_demand_47 ka0 ?_
      refine ct_iconst C dX10_demand_50 (1 : Int32) (by decide) ?_
      refine ct_iadd C dX10_demand_51 ?_
      refine pf_X10_46 C dX10_demand_52 ka0 ?_
      refine ct_mem (fun m9 em9 => ?_)
      have h := h m9 em9
      exact ct_vret C hr hlk dX10_demand_55 h
abbrev rm_X11_addInvariant : Room := { frames := 5, cells := 0, slots := 0, locals := 108 }
set_option maxHeartbeats 4000000 in
set_option maxRecDepth 100000 in
theorem c_X11_addInvariant (l : Launch) (D : va_G) (cy : Nat → ClassId) (o : Nat) {a0 : Nat} {p1 : Int32} {p2 : Int32} {p3 : Int32} {Q : Int32 → ct_M → Prop} {m : ct_M} (ka0 : ct_K 11 a0) (h : wp_X11_addInvariant a0 p1 p2 p3 Q m) : Met l yX11_addInvariant (ct_ws yX11_addInvariant cX11_addInvariant 4 (some .int)) rm_X11_addInvariant (va_Pc [.ref (o + a0), .int p1, .int p2, .int p3] (ct_P D cy o ct_NN m)) (va_Qi Q (ct_P D cy o ct_NN) (fun q => o ≤ q)) 0 0 (fun q => o ≤ q) := by
  refine ct_met l D cy o ct_NN m (by decide) (Nat.le_of_ble_eq_true rfl) (fun p e s mth args below meth c C hr hlk => ?_)
  refine ct_sub [0, 1, 2, 3] [(0, .ref (o + a0)), (1, .int p1), (2, .int p2), (3, .int p3)] rfl ?_
  unfold wp_X11_addInvariant at h
  refine ct_iload_n C dX11_addInvariant_0 1 rfl rfl ?_
  refine ct_callSi (As := [.int p1]) C (c_X11_isCell l D cy o  h) kv_X11_93 rfl rfl (Nat.le_of_ble_eq_true rfl) ⟨rfl, rfl, Nat.le_of_ble_eq_true rfl, Nat.le_of_ble_eq_true rfl⟩ ⟨Nat.zero_le _, Nat.zero_le _⟩ dX11_addInvariant_1 (fun r2 m1 h => ?_)
  refine ct_if_eq C dX11_addInvariant_4 14 (by decide) (fun hc3 => ?_) (fun hc3 => ?_)
  · have h := h.1 hc3
    refine ct_iconst C dX11_addInvariant_14 (-1 : Int32) (by decide) ?_
    exact ct_ireti C hr hlk dX11_addInvariant_15 h
  · have h := h.2 hc3
    refine ct_iload_n C dX11_addInvariant_7 2 rfl rfl ?_
    refine ct_callSi (As := [.int p2]) C (c_X11_isCell l D cy o  h) kv_X11_93 rfl rfl (Nat.le_of_ble_eq_true rfl) ⟨rfl, rfl, Nat.le_of_ble_eq_true rfl, Nat.le_of_ble_eq_true rfl⟩ ⟨Nat.zero_le _, Nat.zero_le _⟩ dX11_addInvariant_8 (fun r5 m4 h => ?_)
    refine ct_if_ne C dX11_addInvariant_11 16 (by decide) (fun hc6 => ?_) (fun hc6 => ?_)
    · have h := h.1 hc6
      refine ct_iload_n C dX11_addInvariant_16 3 rfl rfl ?_
      refine ct_callSi (As := [.int p3]) C (c_X11_isValue l D cy o  h) kv_X11_155 rfl rfl (Nat.le_of_ble_eq_true rfl) ⟨rfl, rfl, Nat.le_of_ble_eq_true rfl, Nat.le_of_ble_eq_true rfl⟩ ⟨Nat.zero_le _, Nat.zero_le _⟩ dX11_addInvariant_17 (fun r8 m7 h => ?_)
      refine ct_if_ne C dX11_addInvariant_20 26 (by decide) (fun hc9 => ?_) (fun hc9 => ?_)
      · have h := h.1 hc9
        refine ct_aload_n C dX11_addInvariant_26 0 rfl rfl ?_
        refine gf_X11_43 C dX11_addInvariant_27 ka0 ?_
        have hk10 := ct_t11_2 ka0
        refine gf_X11_162 C dX11_addInvariant_30 hk10 ?_
        refine ct_iconst C dX11_addInvariant_33 (4 : Int32) (by decide) ?_
        refine ct_icmp_lt C dX11_addInvariant_34 40 (by decide) (fun hc11 => ?_) (fun hc11 => ?_)
        · have h := h.1 hc11
          refine ct_aload_n C dX11_addInvariant_40 0 rfl rfl ?_
          refine gf_X11_50 C dX11_addInvariant_41 ka0 ?_
          have hk12 := ct_t11_3 ka0
          refine ct_aload_n C dX11_addInvariant_44 0 rfl rfl ?_
          refine gf_X11_43 C dX11_addInvariant_45 ka0 ?_
          refine ct_callVv (As := [.ref (o + (a0 + 26))]) (T := TX1) C (c_X1_remember l D cy o hk12 hk10 h) kv_X11_147 hk12.1 (ct_E1 hk12) rfl rfl rfl (Nat.le_of_ble_eq_true rfl) ⟨rfl, rfl, Nat.le_of_ble_eq_true rfl, Nat.le_of_ble_eq_true rfl⟩ ⟨Nat.zero_le _, Nat.zero_le _⟩ dX11_addInvariant_48 (fun m13 h => ?_)
          refine ct_aload_n C dX11_addInvariant_51 0 rfl rfl ?_
          refine gf_X11_43 C dX11_addInvariant_52 ka0 ?_
          refine ct_iload_n C dX11_addInvariant_55 1 rfl rfl ?_
          refine ct_iload_n C dX11_addInvariant_56 2 rfl rfl ?_
          refine ct_iload_n C dX11_addInvariant_57 3 rfl rfl ?_
          refine ct_callVv (As := [.int p1, .int p2, .int p3]) (T := TX10) C (c_X10_demand l D cy o hk10 h) kv_X11_165 hk10.1 (ct_E10 hk10) rfl rfl rfl (Nat.le_of_ble_eq_true rfl) ⟨rfl, rfl, Nat.le_of_ble_eq_true rfl, Nat.le_of_ble_eq_true rfl⟩ ⟨Nat.zero_le _, Nat.zero_le _⟩ dX11_addInvariant_58 (fun m14 h => ?_)
          refine ct_aload_n C dX11_addInvariant_61 0 rfl rfl ?_
          refine gf_X11_43 C dX11_addInvariant_62 ka0 ?_
          refine gf_X11_162 C dX11_addInvariant_65 hk10 ?_
          exact ct_ireti C hr hlk dX11_addInvariant_68 h
        · have h := h.2 hc11
          refine ct_bipush C dX11_addInvariant_37 (-4 : Int32) (by decide) ?_
          exact ct_ireti C hr hlk dX11_addInvariant_39 h
      · have h := h.2 hc9
        refine ct_bipush C dX11_addInvariant_23 (-2 : Int32) (by decide) ?_
        exact ct_ireti C hr hlk dX11_addInvariant_25 h
    · have h := h.2 hc6
      refine ct_iconst C dX11_addInvariant_14 (-1 : Int32) (by decide) ?_
      exact ct_ireti C hr hlk dX11_addInvariant_15 h
abbrev rm_X1_takeBack : Room := { frames := 4, cells := 0, slots := 0, locals := 87 }
set_option maxHeartbeats 4000000 in
set_option maxRecDepth 100000 in
theorem kb_X1_takeBack_18 {p : Program} {l : Launch} {e : Env} {s : State} {mth : MethodId} {args : Array Value} {below : List Frame} {meth : Method} {c : Code} {D : va_G} {cy : Nat → ClassId} {o : Nat} {Q : Int32 → ct_M → Prop} {v0 : Nat} {v1 : Nat} {s0 : Int32} {m : ct_M} (C : ct_Cx p s mth c cX1_takeBack 3 args RX1 D cy) (hr : meth.sig.returnType = (some .boolean)) (hlk : meth.locks = false) (kv0 : ct_K 1 v0) (kv1 : ct_K 10 v1) (h : wb_X1_takeBack_18 Q v0 v1 s0 m) : ct_J p l e rm_X1_takeBack s mth args below meth c 3 D cy o ct_NN 0 0 (MQ below (va_Qi Q (ct_P D cy o ct_NN) (fun q => o ≤ q)) args s 0 0 (fun q => o ≤ q)) m 18 [(0, .ref (o + v0)), (1, .ref (o + v1))] [.int s0] := by
  unfold wb_X1_takeBack_18 at h
  refine ct_istore_n C dX1_takeBack_18 [(2, .int s0), (0, .ref (o + v0)), (1, .ref (o + v1))] rfl (by decide) rfl ?_
  refine ct_aload_n C dX1_takeBack_19 1 rfl rfl ?_
  refine gf_X1_28 C dX1_takeBack_20 kv0 ?_
  refine ct_iconst C dX1_takeBack_23 (1 : Int32) (by decide) ?_
  refine ct_icmp_lt C dX1_takeBack_24 33 (by decide) (fun hc1 => ?_) (fun hc1 => ?_)
  · have h := h.1 hc1
    refine ct_iconst C dX1_takeBack_33 (0 : Int32) (by decide) ?_
    exact ct_zret C hr hlk dX1_takeBack_34 (by decide) h
  · have h := h.2 hc1
    refine ct_iload_n C dX1_takeBack_27 0 rfl rfl ?_
    refine ct_bipush C dX1_takeBack_28 (14 : Int32) (by decide) ?_
    refine ct_icmp_lt C dX1_takeBack_30 35 (by decide) (fun hc2 => ?_) (fun hc2 => ?_)
    · have h := h.1 hc2
      refine ct_aload_n C dX1_takeBack_35 2 rfl rfl ?_
      refine ct_aload_n C dX1_takeBack_36 1 rfl rfl ?_
      refine gf_X1_11 C dX1_takeBack_37 kv0 ?_
      have hk3 := ct_t1_0 kv0
      refine ct_iload_n C dX1_takeBack_40 0 rfl rfl ?_
      refine ct_aald20 C dX1_takeBack_41 hk3 h.1 ?_
      have hk4 := ct_e20 hk3 (ct_vin h.1)
      have h := h.2
      refine ct_callVv (As := [.ref (o + (ct_elW (v0 + 1) s0.toNatClampNeg))]) (T := TX10) C (c_X10_copyFrom l D cy o kv1 hk4 h) kv_X1_24 kv1.1 (ct_E10 kv1) rfl rfl rfl (Nat.le_of_ble_eq_true rfl) ⟨rfl, rfl, Nat.le_of_ble_eq_true rfl, Nat.le_of_ble_eq_true rfl⟩ ⟨Nat.zero_le _, Nat.zero_le _⟩ dX1_takeBack_42 (fun m5 h => ?_)
      refine ct_aload_n C dX1_takeBack_45 1 rfl rfl ?_
      refine ct_iload_n C dX1_takeBack_46 0 rfl rfl ?_
      refine pf_X1_20 C dX1_takeBack_47 kv0 ?_
      refine ct_mem (fun m6 em6 => ?_)
      have h := h m6 em6
      refine ct_aload_n C dX1_takeBack_50 1 rfl rfl ?_
      refine ct_dup C dX1_takeBack_51 rfl ?_
      refine gf_X1_28 C dX1_takeBack_52 kv0 ?_
      refine ct_iconst C dX1_takeBack_55 (1 : Int32) (by decide) ?_
      refine ct_isub C dX1_takeBack_56 ?_
      refine pf_X1_28 C dX1_takeBack_57 kv0 ?_
      refine ct_mem (fun m7 em7 => ?_)
      have h := h m7 em7
      refine ct_iconst C dX1_takeBack_60 (1 : Int32) (by decide) ?_
      exact ct_zret C hr hlk dX1_takeBack_61 (by decide) h
    · have h := h.2 hc2
      refine ct_iconst C dX1_takeBack_33 (0 : Int32) (by decide) ?_
      exact ct_zret C hr hlk dX1_takeBack_34 (by decide) h
set_option maxHeartbeats 4000000 in
set_option maxRecDepth 100000 in
theorem c_X1_takeBack (l : Launch) (D : va_G) (cy : Nat → ClassId) (o : Nat) {a0 : Nat} {a1 : Nat} {Q : Int32 → ct_M → Prop} {m : ct_M} (ka0 : ct_K 1 a0) (ka1 : ct_K 10 a1) (h : wp_X1_takeBack a0 a1 Q m) : Met l yX1_takeBack (ct_ws yX1_takeBack cX1_takeBack 3 (some .boolean)) rm_X1_takeBack (va_Pc [.ref (o + a0), .ref (o + a1)] (ct_P D cy o ct_NN m)) (va_Qi Q (ct_P D cy o ct_NN) (fun q => o ≤ q)) 0 0 (fun q => o ≤ q) := by
  refine ct_met l D cy o ct_NN m (by decide) (Nat.le_of_ble_eq_true rfl) (fun p e s mth args below meth c C hr hlk => ?_)
  refine ct_sub [0, 1] [(0, .ref (o + a0)), (1, .ref (o + a1))] rfl ?_
  unfold wp_X1_takeBack at h
  refine ct_aload_n C dX1_takeBack_0 0 rfl rfl ?_
  refine gf_X1_20 C dX1_takeBack_1 ka0 ?_
  refine ct_if_le C dX1_takeBack_4 16 (by decide) (fun hc1 => ?_) (fun hc1 => ?_)
  · have h := h.1 hc1
    refine ct_bipush C dX1_takeBack_16 (13 : Int32) (by decide) ?_
    refine ct_sub [0, 1] [(0, .ref (o + a0)), (1, .ref (o + a1))] rfl ?_
    exact kb_X1_takeBack_18 C hr hlk  ka0 ka1 h
  · have h := h.2 hc1
    refine ct_aload_n C dX1_takeBack_7 0 rfl rfl ?_
    refine gf_X1_20 C dX1_takeBack_8 ka0 ?_
    refine ct_iconst C dX1_takeBack_11 (1 : Int32) (by decide) ?_
    refine ct_isub C dX1_takeBack_12 ?_
    refine ct_goto C dX1_takeBack_13 18 (by decide) ?_
    refine ct_sub [0, 1] [(0, .ref (o + a0)), (1, .ref (o + a1))] rfl ?_
    exact kb_X1_takeBack_18 C hr hlk  ka0 ka1 h
abbrev rm_X11_undo : Room := { frames := 5, cells := 0, slots := 0, locals := 109 }
set_option maxHeartbeats 4000000 in
set_option maxRecDepth 100000 in
theorem c_X11_undo (l : Launch) (D : va_G) (cy : Nat → ClassId) (o : Nat) {a0 : Nat} {Q : Int32 → ct_M → Prop} {m : ct_M} (ka0 : ct_K 11 a0) (h : wp_X11_undo a0 Q m) : Met l yX11_undo (ct_ws yX11_undo cX11_undo 1 (some .int)) rm_X11_undo (va_Pc [.ref (o + a0)] (ct_P D cy o ct_NN m)) (va_Qi Q (ct_P D cy o ct_NN) (fun q => o ≤ q)) 0 0 (fun q => o ≤ q) := by
  refine ct_met l D cy o ct_NN m (by decide) (Nat.le_of_ble_eq_true rfl) (fun p e s mth args below meth c C hr hlk => ?_)
  refine ct_sub [0] [(0, .ref (o + a0))] rfl ?_
  unfold wp_X11_undo at h
  refine ct_aload_n C dX11_undo_0 0 rfl rfl ?_
  refine gf_X11_50 C dX11_undo_1 ka0 ?_
  have hk1 := ct_t11_3 ka0
  refine ct_aload_n C dX11_undo_4 0 rfl rfl ?_
  refine gf_X11_43 C dX11_undo_5 ka0 ?_
  have hk2 := ct_t11_2 ka0
  refine ct_callVi (As := [.ref (o + (a0 + 26))]) (T := TX1) C (c_X1_takeBack l D cy o hk1 hk2 h) kv_X11_169 hk1.1 (ct_E1 hk1) rfl rfl rfl (Nat.le_of_ble_eq_true rfl) ⟨rfl, rfl, Nat.le_of_ble_eq_true rfl, Nat.le_of_ble_eq_true rfl⟩ ⟨Nat.zero_le _, Nat.zero_le _⟩ dX11_undo_8 (fun r4 m3 h => ?_)
  refine ct_if_eq C dX11_undo_11 24 (by decide) (fun hc5 => ?_) (fun hc5 => ?_)
  · have h := h.1 hc5
    refine ct_bipush C dX11_undo_24 (-3 : Int32) (by decide) ?_
    exact ct_ireti C hr hlk dX11_undo_26 h
  · have h := h.2 hc5
    refine ct_aload_n C dX11_undo_14 0 rfl rfl ?_
    refine gf_X11_50 C dX11_undo_15 ka0 ?_
    refine gf_X11_173 C dX11_undo_18 hk1 ?_
    refine ct_goto C dX11_undo_21 26 (by decide) ?_
    exact ct_ireti C hr hlk dX11_undo_26 h
abbrev rm_X2_clear : Room := { frames := 1, cells := 0, slots := 0, locals := 23 }
set_option maxHeartbeats 4000000 in
set_option maxRecDepth 100000 in
theorem c_X2_clear (l : Launch) (D : va_G) (cy : Nat → ClassId) (o : Nat) {a0 : Nat} {Q : ct_M → Prop} {m : ct_M} (ka0 : ct_K 2 a0) (h : wp_X2_clear a0 Q m) : Met l yX2_clear (ct_ws yX2_clear cX2_clear 1 none) rm_X2_clear (va_Pc [.ref (o + a0)] (ct_P D cy o ct_NN m)) (va_Qv Q (ct_P D cy o ct_NN) (fun q => o ≤ q)) 0 0 (fun q => o ≤ q) := by
  refine ct_met l D cy o ct_NN m (by decide) (Nat.le_of_ble_eq_true rfl) (fun p e s mth args below meth c C hr hlk => ?_)
  refine ct_sub [0] [(0, .ref (o + a0))] rfl ?_
  unfold wp_X2_clear at h
  refine ct_aload_n C dX2_clear_0 0 rfl rfl ?_
  refine ct_iconst C dX2_clear_1 (0 : Int32) (by decide) ?_
  refine pf_X2_17 C dX2_clear_2 ka0 ?_
  refine ct_mem (fun m1 em1 => ?_)
  have h := h m1 em1
  refine ct_aload_n C dX2_clear_5 0 rfl rfl ?_
  refine gf_X2_13 C dX2_clear_6 ka0 ?_
  have hk2 := ct_t2_2 ka0
  refine ct_iconst C dX2_clear_9 (0 : Int32) (by decide) ?_
  refine ct_callSv (As := [.ref (o + (a0 + 2)), .int (0 : Int32)]) C (c_J7_fill_53178 l D cy o hk2 h) kv_X2_21 rfl rfl (Nat.le_of_ble_eq_true rfl) ⟨rfl, rfl, Nat.le_of_ble_eq_true rfl, Nat.le_of_ble_eq_true rfl⟩ ⟨Nat.zero_le _, Nat.zero_le _⟩ dX2_clear_10 (fun m3 h => ?_)
  exact ct_vret C hr hlk dX2_clear_13 h
abbrev rm_X6_valueBits : Room := { frames := 0, cells := 0, slots := 0, locals := 0 }
set_option maxHeartbeats 4000000 in
set_option maxRecDepth 100000 in
theorem kb_X6_valueBits_4 {p : Program} {l : Launch} {e : Env} {s : State} {mth : MethodId} {args : Array Value} {below : List Frame} {meth : Method} {c : Code} {D : va_G} {cy : Nat → ClassId} {o : Nat} {Q : Int64 → ct_M → Prop} (C : ct_Cx p s mth c cX6_valueBits 4 args RX6 D cy) (hr : meth.sig.returnType = (some .long)) (hlk : meth.locks = false) : ∀ (n : Nat) (v0 : Nat) (v1 : Int64) (v3 : Int32) (m : ct_M) (kv0 : ct_K 14 v0), wb_X6_valueBits_4 Q n v0 v1 v3 m → ct_J p l e rm_X6_valueBits s mth args below meth c 4 D cy o ct_NN 0 0 (MQ below (va_Ql Q (ct_P D cy o ct_NN) (fun q => o ≤ q)) args s 0 0 (fun q => o ≤ q)) m 4 [(0, .ref (o + v0)), (1, .long v1), (3, .int v3)] [] := by
  intro n
  induction n with
  | zero => intro v0 v1 v3 m kv0 h; exact h.elim
  | succ n ih =>
    intro v0 v1 v3 m kv0 h
    unfold wb_X6_valueBits_4 at h
    refine ct_iload_n C dX6_valueBits_4 2 rfl rfl ?_
    refine ct_bipush C dX6_valueBits_5 (6 : Int32) (by decide) ?_
    refine ct_icmp_ge C dX6_valueBits_7 37 (by decide) (fun hc1 => ?_) (fun hc1 => ?_)
    · have h := h.1 hc1
      refine ct_lload_n C dX6_valueBits_37 1 rfl rfl ?_
      exact ct_lret C hr hlk dX6_valueBits_38 h
    · have h := h.2 hc1
      refine ct_iload_n C dX6_valueBits_10 2 rfl rfl ?_
      refine ct_aload_n C dX6_valueBits_11 0 rfl rfl ?_
      refine ct_alen14 C dX6_valueBits_12 kv0 ?_
      refine ct_icmp_ge C dX6_valueBits_13 37 (by decide) (fun hc2 => ?_) (fun hc2 => ?_)
      · have h := h.1 hc2
        refine ct_lload_n C dX6_valueBits_37 1 rfl rfl ?_
        exact ct_lret C hr hlk dX6_valueBits_38 h
      · have h := h.2 hc2
        refine ct_lload_n C dX6_valueBits_16 1 rfl rfl ?_
        refine ct_aload_n C dX6_valueBits_17 0 rfl rfl ?_
        refine ct_iload_n C dX6_valueBits_18 2 rfl rfl ?_
        refine ct_iald C dX6_valueBits_19 kv0 h.1 ?_
        have h := h.2
        refine ct_bipush C dX6_valueBits_20 (99 : Int32) (by decide) ?_
        refine ct_iadd C dX6_valueBits_22 ?_
        refine ct_i2l C dX6_valueBits_23 ?_
        refine ct_bipush C dX6_valueBits_24 (8 : Int32) (by decide) ?_
        refine ct_iload_n C dX6_valueBits_26 2 rfl rfl ?_
        refine ct_imul C dX6_valueBits_27 ?_
        refine ct_lshl C dX6_valueBits_28 ?_
        refine ct_lor C dX6_valueBits_29 ?_
        refine ct_topl (fun x3 ex3 => ?_)
        have h := h x3 ex3
        refine ct_lstore_n C dX6_valueBits_30 [(1, .long x3), (0, .ref (o + v0)), (3, .int v3)] rfl (by decide) rfl ?_
        obtain ⟨x4, ex4⟩ : ∃ z : Int32, z = v3 + (1 : Int32) := ⟨_, rfl⟩
        have h := h x4 ex4
        refine ct_iinc (k := 2) (v := x4) C dX6_valueBits_31 [(3, .int x4), (1, .long x3), (0, .ref (o + v0))] rfl (by rw [ex4]; rfl) (by decide) rfl ?_
        refine ct_goto C dX6_valueBits_34 4 (by decide) ?_
        refine ct_sub [2, 1, 0] [(0, .ref (o + v0)), (1, .long x3), (3, .int x4)] rfl ?_
        exact ih _ _ _ _ kv0 h
set_option maxHeartbeats 4000000 in
set_option maxRecDepth 100000 in
theorem c_X6_valueBits (l : Launch) (D : va_G) (cy : Nat → ClassId) (o : Nat) {a0 : Nat} {Q : Int64 → ct_M → Prop} {m : ct_M} (ka0 : ct_K 14 a0) (h : wp_X6_valueBits a0 Q m) : Met l yX6_valueBits (ct_ws yX6_valueBits cX6_valueBits 4 (some .long)) rm_X6_valueBits (va_Pc [.ref (o + a0)] (ct_P D cy o ct_NN m)) (va_Ql Q (ct_P D cy o ct_NN) (fun q => o ≤ q)) 0 0 (fun q => o ≤ q) := by
  refine ct_met l D cy o ct_NN m (by decide) (Nat.le_of_ble_eq_true rfl) (fun p e s mth args below meth c C hr hlk => ?_)
  refine ct_sub [0] [(0, .ref (o + a0))] rfl ?_
  unfold wp_X6_valueBits at h
  refine ct_lconst C dX6_valueBits_0 (0 : Int64) (by decide) ?_
  refine ct_lstore_n C dX6_valueBits_1 [(1, .long (0 : Int64)), (0, .ref (o + a0))] rfl (by decide) rfl ?_
  refine ct_iconst C dX6_valueBits_2 (0 : Int32) (by decide) ?_
  refine ct_istore_n C dX6_valueBits_3 [(3, .int (0 : Int32)), (1, .long (0 : Int64)), (0, .ref (o + a0))] rfl (by decide) rfl ?_
  refine ct_sub [2, 1, 0] [(0, .ref (o + a0)), (1, .long (0 : Int64)), (3, .int (0 : Int32))] rfl ?_
  obtain ⟨n1, h⟩ := h
  exact kb_X6_valueBits_4 C hr hlk  n1 _ _ _ _ ka0 h
abbrev rm_X6_failedBit : Room := { frames := 0, cells := 0, slots := 0, locals := 0 }
set_option maxHeartbeats 4000000 in
set_option maxRecDepth 100000 in
theorem c_X6_failedBit (l : Launch) (D : va_G) (cy : Nat → ClassId) (o : Nat) {p0 : Int32} {Q : Int64 → ct_M → Prop} {m : ct_M} (h : wp_X6_failedBit p0 Q m) : Met l yX6_failedBit (ct_ws yX6_failedBit cX6_failedBit 1 (some .long)) rm_X6_failedBit (va_Pc [.int p0] (ct_P D cy o ct_NN m)) (va_Ql Q (ct_P D cy o ct_NN) (fun q => o ≤ q)) 0 0 (fun q => o ≤ q) := by
  refine ct_met l D cy o ct_NN m (by decide) (Nat.le_of_ble_eq_true rfl) (fun p e s mth args below meth c C hr hlk => ?_)
  refine ct_sub [0] [(0, .int p0)] rfl ?_
  unfold wp_X6_failedBit at h
  refine ct_lconst C dX6_failedBit_0 (1 : Int64) (by decide) ?_
  refine ct_bipush C dX6_failedBit_1 (54 : Int32) (by decide) ?_
  refine ct_iload_n C dX6_failedBit_3 0 rfl rfl ?_
  refine ct_iadd C dX6_failedBit_4 ?_
  refine ct_lshl C dX6_failedBit_5 ?_
  exact ct_lret C hr hlk dX6_failedBit_6 h
abbrev rm_X6_runBits : Room := { frames := 0, cells := 0, slots := 0, locals := 0 }
set_option maxHeartbeats 4000000 in
set_option maxRecDepth 100000 in
theorem c_X6_runBits (l : Launch) (D : va_G) (cy : Nat → ClassId) (o : Nat) {p0 : Int32} {p1 : Int32} {Q : Int64 → ct_M → Prop} {m : ct_M} (h : wp_X6_runBits p0 p1 Q m) : Met l yX6_runBits (ct_ws yX6_runBits cX6_runBits 2 (some .long)) rm_X6_runBits (va_Pc [.int p0, .int p1] (ct_P D cy o ct_NN m)) (va_Ql Q (ct_P D cy o ct_NN) (fun q => o ≤ q)) 0 0 (fun q => o ≤ q) := by
  refine ct_met l D cy o ct_NN m (by decide) (Nat.le_of_ble_eq_true rfl) (fun p e s mth args below meth c C hr hlk => ?_)
  refine ct_sub [0, 1] [(0, .int p0), (1, .int p1)] rfl ?_
  unfold wp_X6_runBits at h
  refine ct_iload_n C dX6_runBits_0 0 rfl rfl ?_
  refine ct_i2l C dX6_runBits_1 ?_
  refine ct_bipush C dX6_runBits_2 (48 : Int32) (by decide) ?_
  refine ct_iconst C dX6_runBits_4 (2 : Int32) (by decide) ?_
  refine ct_iload_n C dX6_runBits_5 1 rfl rfl ?_
  refine ct_imul C dX6_runBits_6 ?_
  refine ct_iadd C dX6_runBits_7 ?_
  refine ct_lshl C dX6_runBits_8 ?_
  exact ct_lret C hr hlk dX6_runBits_9 h
abbrev rm_X6_firstPoint : Room := { frames := 1, cells := 0, slots := 0, locals := 23 }
set_option maxHeartbeats 4000000 in
set_option maxRecDepth 100000 in
theorem kb_X6_firstPoint_74 {p : Program} {l : Launch} {e : Env} {s : State} {mth : MethodId} {args : Array Value} {below : List Frame} {meth : Method} {c : Code} {D : va_G} {cy : Nat → ClassId} {o : Nat} {Q : Int64 → ct_M → Prop} {K13 : Nat → Int64 → Int32 → ct_M → Prop} {v0 : Nat} {v1 : Int64} {v3 : Int32} {m : ct_M} (C : ct_Cx p s mth c cX6_firstPoint 4 args RX6 D cy) (hr : meth.sig.returnType = (some .long)) (hlk : meth.locks = false) (hK13 : ∀ (v0 : Nat) (v1 : Int64) (v3 : Int32) (m : ct_M), ct_K 6 v0 → K13 v0 v1 v3 m → ct_J p l e rm_X6_firstPoint s mth args below meth c 4 D cy o ct_NN 0 0 (MQ below (va_Ql Q (ct_P D cy o ct_NN) (fun q => o ≤ q)) args s 0 0 (fun q => o ≤ q)) m 13 [(0, .ref (o + v0)), (1, .long v1), (3, .int v3)] []) (kv0 : ct_K 6 v0) (h : wb_X6_firstPoint_74 K13 Q v0 v1 v3 m) : ct_J p l e rm_X6_firstPoint s mth args below meth c 4 D cy o ct_NN 0 0 (MQ below (va_Ql Q (ct_P D cy o ct_NN) (fun q => o ≤ q)) args s 0 0 (fun q => o ≤ q)) m 74 [(0, .ref (o + v0)), (1, .long v1), (3, .int v3)] [] := by
  unfold wb_X6_firstPoint_74 at h
  obtain ⟨x1, ex1⟩ : ∃ z : Int32, z = v3 + (1 : Int32) := ⟨_, rfl⟩
  have h := h x1 ex1
  refine ct_iinc (k := 2) (v := x1) C dX6_firstPoint_74 [(3, .int x1), (0, .ref (o + v0)), (1, .long v1)] rfl (by rw [ex1]; rfl) (by decide) rfl ?_
  refine ct_goto C dX6_firstPoint_77 13 (by decide) ?_
  refine ct_sub [1, 2, 0] [(0, .ref (o + v0)), (1, .long v1), (3, .int x1)] rfl ?_
  exact hK13 _ _ _ _ kv0 h
set_option maxHeartbeats 4000000 in
set_option maxRecDepth 100000 in
theorem kb_X6_firstPoint_13 {p : Program} {l : Launch} {e : Env} {s : State} {mth : MethodId} {args : Array Value} {below : List Frame} {meth : Method} {c : Code} {D : va_G} {cy : Nat → ClassId} {o : Nat} {Q : Int64 → ct_M → Prop} (C : ct_Cx p s mth c cX6_firstPoint 4 args RX6 D cy) (hr : meth.sig.returnType = (some .long)) (hlk : meth.locks = false) : ∀ (n : Nat) (v0 : Nat) (v1 : Int64) (v3 : Int32) (m : ct_M) (kv0 : ct_K 6 v0), wb_X6_firstPoint_13 Q n v0 v1 v3 m → ct_J p l e rm_X6_firstPoint s mth args below meth c 4 D cy o ct_NN 0 0 (MQ below (va_Ql Q (ct_P D cy o ct_NN) (fun q => o ≤ q)) args s 0 0 (fun q => o ≤ q)) m 13 [(0, .ref (o + v0)), (1, .long v1), (3, .int v3)] [] := by
  intro n
  induction n with
  | zero => intro v0 v1 v3 m kv0 h; exact h.elim
  | succ n ih =>
    intro v0 v1 v3 m kv0 h
    unfold wb_X6_firstPoint_13 at h
    refine ct_iload_n C dX6_firstPoint_13 2 rfl rfl ?_
    refine ct_aload_n C dX6_firstPoint_14 0 rfl rfl ?_
    refine gf_X6_26 C dX6_firstPoint_15 kv0 ?_
    have hk1 := ct_t6_0 kv0
    refine gf_X6_53 C dX6_firstPoint_18 hk1 ?_
    refine ct_icmp_ge C dX6_firstPoint_21 80 (by decide) (fun hc2 => ?_) (fun hc2 => ?_)
    · have h := h.1 hc2
      refine ct_lload_n C dX6_firstPoint_80 1 rfl rfl ?_
      exact ct_lret C hr hlk dX6_firstPoint_81 h
    · have h := h.2 hc2
      refine ct_iload_n C dX6_firstPoint_24 2 rfl rfl ?_
      refine ct_iconst C dX6_firstPoint_25 (3 : Int32) (by decide) ?_
      refine ct_icmp_ge C dX6_firstPoint_26 80 (by decide) (fun hc3 => ?_) (fun hc3 => ?_)
      · have h := h.1 hc3
        refine ct_lload_n C dX6_firstPoint_80 1 rfl rfl ?_
        exact ct_lret C hr hlk dX6_firstPoint_81 h
      · have h := h.2 hc3
        refine ct_aload_n C dX6_firstPoint_29 0 rfl rfl ?_
        refine gf_X6_26 C dX6_firstPoint_30 kv0 ?_
        refine gf_X6_74 C dX6_firstPoint_33 hk1 ?_
        have hk4 := ct_t10_2 hk1
        refine ct_iload_n C dX6_firstPoint_36 2 rfl rfl ?_
        refine ct_aald19 C dX6_firstPoint_37 hk4 h.1 ?_
        have hk5 := ct_e19 hk4 (ct_vin h.1)
        have h := h.2
        refine gf_X6_78 C dX6_firstPoint_38 hk5 ?_
        refine ct_iconst C dX6_firstPoint_41 (3 : Int32) (by decide) ?_
        refine ct_icmp_ne C dX6_firstPoint_42 55 (by decide) (fun hc6 => ?_) (fun hc6 => ?_)
        · have h := h.1 hc6
          refine ct_lload_n C dX6_firstPoint_55 1 rfl rfl ?_
          refine ct_aload_n C dX6_firstPoint_56 0 rfl rfl ?_
          refine gf_X6_26 C dX6_firstPoint_57 kv0 ?_
          refine gf_X6_74 C dX6_firstPoint_60 hk1 ?_
          refine ct_iload_n C dX6_firstPoint_63 2 rfl rfl ?_
          refine ct_aald19 C dX6_firstPoint_64 hk4 h.1 ?_
          have h := h.2
          refine gf_X6_87 C dX6_firstPoint_65 hk5 ?_
          refine ct_iload_n C dX6_firstPoint_68 2 rfl rfl ?_
          refine ct_callSl (As := [.int (m.1 (((v0 + 7) + 3) + 4 + 15 * v3.toNatClampNeg) 2), .int v3]) C (c_X6_runBits l D cy o  h) kv_X6_90 rfl rfl (Nat.le_of_ble_eq_true rfl) ⟨rfl, rfl, Nat.le_of_ble_eq_true rfl, Nat.le_of_ble_eq_true rfl⟩ ⟨Nat.zero_le _, Nat.zero_le _⟩ dX6_firstPoint_69 (fun r8 m7 h => ?_)
          refine ct_lor C dX6_firstPoint_72 ?_
          refine ct_topl (fun x9 ex9 => ?_)
          have h := h x9 ex9
          refine ct_lstore_n C dX6_firstPoint_73 [(1, .long x9), (0, .ref (o + v0)), (3, .int v3)] rfl (by decide) rfl ?_
          refine ct_sub [1, 0, 2] [(0, .ref (o + v0)), (1, .long x9), (3, .int v3)] rfl ?_
          exact kb_X6_firstPoint_74 C hr hlk ih kv0 h
        · have h := h.2 hc6
          refine ct_lload_n C dX6_firstPoint_45 1 rfl rfl ?_
          refine ct_iload_n C dX6_firstPoint_46 2 rfl rfl ?_
          refine ct_callSl (As := [.int v3]) C (c_X6_failedBit l D cy o  h) kv_X6_83 rfl rfl (Nat.le_of_ble_eq_true rfl) ⟨rfl, rfl, Nat.le_of_ble_eq_true rfl, Nat.le_of_ble_eq_true rfl⟩ ⟨Nat.zero_le _, Nat.zero_le _⟩ dX6_firstPoint_47 (fun r11 m10 h => ?_)
          refine ct_lor C dX6_firstPoint_50 ?_
          refine ct_topl (fun x12 ex12 => ?_)
          have h := h x12 ex12
          refine ct_lstore_n C dX6_firstPoint_51 [(1, .long x12), (0, .ref (o + v0)), (3, .int v3)] rfl (by decide) rfl ?_
          refine ct_goto C dX6_firstPoint_52 74 (by decide) ?_
          refine ct_sub [1, 0, 2] [(0, .ref (o + v0)), (1, .long x12), (3, .int v3)] rfl ?_
          exact kb_X6_firstPoint_74 C hr hlk ih kv0 h
set_option maxHeartbeats 4000000 in
set_option maxRecDepth 100000 in
theorem c_X6_firstPoint (l : Launch) (D : va_G) (cy : Nat → ClassId) (o : Nat) {a0 : Nat} {Q : Int64 → ct_M → Prop} {m : ct_M} (ka0 : ct_K 6 a0) (h : wp_X6_firstPoint a0 Q m) : Met l yX6_firstPoint (ct_ws yX6_firstPoint cX6_firstPoint 4 (some .long)) rm_X6_firstPoint (va_Pc [.ref (o + a0)] (ct_P D cy o ct_NN m)) (va_Ql Q (ct_P D cy o ct_NN) (fun q => o ≤ q)) 0 0 (fun q => o ≤ q) := by
  refine ct_met l D cy o ct_NN m (by decide) (Nat.le_of_ble_eq_true rfl) (fun p e s mth args below meth c C hr hlk => ?_)
  refine ct_sub [0] [(0, .ref (o + a0))] rfl ?_
  unfold wp_X6_firstPoint at h
  refine ct_aload_n C dX6_firstPoint_0 0 rfl rfl ?_
  refine gf_X6_26 C dX6_firstPoint_1 ka0 ?_
  have hk1 := ct_t6_0 ka0
  refine gf_X6_66 C dX6_firstPoint_4 hk1 ?_
  have hk2 := ct_t10_0 hk1
  refine ct_callSl (As := [.ref (o + ((a0 + 7) + 1))]) C (c_X6_valueBits l D cy o hk2 h) kv_X6_70 rfl rfl (Nat.le_of_ble_eq_true rfl) ⟨rfl, rfl, Nat.le_of_ble_eq_true rfl, Nat.le_of_ble_eq_true rfl⟩ ⟨Nat.zero_le _, Nat.zero_le _⟩ dX6_firstPoint_7 (fun r4 m3 h => ?_)
  refine ct_lstore_n C dX6_firstPoint_10 [(1, .long r4), (0, .ref (o + a0))] rfl (by decide) rfl ?_
  refine ct_iconst C dX6_firstPoint_11 (0 : Int32) (by decide) ?_
  refine ct_istore_n C dX6_firstPoint_12 [(3, .int (0 : Int32)), (1, .long r4), (0, .ref (o + a0))] rfl (by decide) rfl ?_
  refine ct_sub [2, 1, 0] [(0, .ref (o + a0)), (1, .long r4), (3, .int (0 : Int32))] rfl ?_
  obtain ⟨n5, h⟩ := h
  exact kb_X6_firstPoint_13 C hr hlk  n5 _ _ _ _ ka0 h
abbrev rm_X2_insert : Room := { frames := 0, cells := 0, slots := 0, locals := 0 }
set_option maxHeartbeats 4000000 in
set_option maxRecDepth 100000 in
theorem c_X2_insert (l : Launch) (D : va_G) (cy : Nat → ClassId) (o : Nat) {a0 : Nat} {p1 : Int32} {p2 : Int64} {Q : ct_M → Prop} {m : ct_M} (ka0 : ct_K 2 a0) (h : wp_X2_insert a0 p1 p2 Q m) : Met l yX2_insert (ct_ws yX2_insert cX2_insert 4 none) rm_X2_insert (va_Pc [.ref (o + a0), .int p1, .long p2] (ct_P D cy o ct_NN m)) (va_Qv Q (ct_P D cy o ct_NN) (fun q => o ≤ q)) 0 0 (fun q => o ≤ q) := by
  refine ct_met l D cy o ct_NN m (by decide) (Nat.le_of_ble_eq_true rfl) (fun p e s mth args below meth c C hr hlk => ?_)
  refine ct_sub [0, 1, 2] [(0, .ref (o + a0)), (1, .int p1), (2, .long p2)] rfl ?_
  unfold wp_X2_insert at h
  refine ct_aload_n C dX2_insert_0 0 rfl rfl ?_
  refine gf_X2_17 C dX2_insert_1 ka0 ?_
  refine ct_sipush C dX2_insert_4 (1359 : Int32) (by decide) ?_
  refine ct_icmp_ge C dX2_insert_7 51 (by decide) (fun hc1 => ?_) (fun hc1 => ?_)
  · have h := h.1 hc1
    exact ct_vret C hr hlk dX2_insert_51 h
  · have h := h.2 hc1
    refine ct_iload_n C dX2_insert_10 1 rfl rfl ?_
    refine ct_if_lt C dX2_insert_11 51 (by decide) (fun hc2 => ?_) (fun hc2 => ?_)
    · have h := h.1 hc2
      exact ct_vret C hr hlk dX2_insert_51 h
    · have h := h.2 hc2
      refine ct_iload_n C dX2_insert_14 1 rfl rfl ?_
      refine ct_sipush C dX2_insert_15 (2048 : Int32) (by decide) ?_
      refine ct_icmp_ge C dX2_insert_18 51 (by decide) (fun hc3 => ?_) (fun hc3 => ?_)
      · have h := h.1 hc3
        exact ct_vret C hr hlk dX2_insert_51 h
      · have h := h.2 hc3
        refine ct_aload_n C dX2_insert_21 0 rfl rfl ?_
        refine gf_X2_9 C dX2_insert_22 ka0 ?_
        have hk4 := ct_t2_0 ka0
        refine ct_aload_n C dX2_insert_25 0 rfl rfl ?_
        refine gf_X2_17 C dX2_insert_26 ka0 ?_
        refine ct_lload_n C dX2_insert_29 2 rfl rfl ?_
        refine ct_last C dX2_insert_30 hk4 h.1 ?_
        have h := h.2
        refine ct_mem (fun m5 em5 => ?_)
        have h := h m5 em5
        refine ct_aload_n C dX2_insert_31 0 rfl rfl ?_
        refine ct_dup C dX2_insert_32 rfl ?_
        refine gf_X2_17 C dX2_insert_33 ka0 ?_
        refine ct_iconst C dX2_insert_36 (1 : Int32) (by decide) ?_
        refine ct_iadd C dX2_insert_37 ?_
        refine pf_X2_17 C dX2_insert_38 ka0 ?_
        refine ct_mem (fun m6 em6 => ?_)
        have h := h m6 em6
        refine ct_aload_n C dX2_insert_41 0 rfl rfl ?_
        refine gf_X2_13 C dX2_insert_42 ka0 ?_
        have hk7 := ct_t2_2 ka0
        refine ct_iload_n C dX2_insert_45 1 rfl rfl ?_
        refine ct_aload_n C dX2_insert_46 0 rfl rfl ?_
        refine gf_X2_17 C dX2_insert_47 ka0 ?_
        refine ct_iast C dX2_insert_50 hk7 h.1 ?_
        have h := h.2
        refine ct_mem (fun m8 em8 => ?_)
        have h := h m8 em8
        exact ct_vret C hr hlk dX2_insert_51 h
abbrev rm_X2_add : Room := { frames := 1, cells := 0, slots := 0, locals := 23 }
set_option maxHeartbeats 4000000 in
set_option maxRecDepth 100000 in
theorem kb_X2_add_54 {p : Program} {l : Launch} {e : Env} {s : State} {mth : MethodId} {args : Array Value} {below : List Frame} {meth : Method} {c : Code} {D : va_G} {cy : Nat → ClassId} {o : Nat} {Q : ct_M → Prop} {v0 : Nat} {v1 : Int64} {v5 : Int32} {m : ct_M} (C : ct_Cx p s mth c cX2_add 7 args RX2 D cy) (hr : meth.sig.returnType = none) (hlk : meth.locks = false) (kv0 : ct_K 2 v0) (h : wb_X2_add_54 Q v0 v1 v5 m) : ct_J p l e rm_X2_add s mth args below meth c 7 D cy o ct_NN 0 0 (MQ below (va_Qv Q (ct_P D cy o ct_NN) (fun q => o ≤ q)) args s 0 0 (fun q => o ≤ q)) m 54 [(0, .ref (o + v0)), (1, .long v1), (5, .int v5)] [] := by
  unfold wb_X2_add_54 at h
  refine ct_aload_n C dX2_add_54 0 rfl rfl ?_
  refine ct_iload C dX2_add_55 2 rfl ?_
  refine ct_lload_n C dX2_add_57 1 rfl rfl ?_
  refine ct_callVv (As := [.int v5, .long v1]) (T := TX2) C (c_X2_insert l D cy o kv0 h) kv_X2_29 kv0.1 (ct_E2 kv0) rfl rfl rfl (Nat.le_of_ble_eq_true rfl) ⟨rfl, rfl, Nat.le_of_ble_eq_true rfl, Nat.le_of_ble_eq_true rfl⟩ ⟨Nat.zero_le _, Nat.zero_le _⟩ dX2_add_58 (fun m1 h => ?_)
  exact ct_vret C hr hlk dX2_add_61 h
set_option maxHeartbeats 4000000 in
set_option maxRecDepth 100000 in
theorem kb_X2_add_13 {p : Program} {l : Launch} {e : Env} {s : State} {mth : MethodId} {args : Array Value} {below : List Frame} {meth : Method} {c : Code} {D : va_G} {cy : Nat → ClassId} {o : Nat} {Q : ct_M → Prop} (C : ct_Cx p s mth c cX2_add 7 args RX2 D cy) (hr : meth.sig.returnType = none) (hlk : meth.locks = false) : ∀ (n : Nat) (v0 : Nat) (v1 : Int64) (v3 : Int32) (v4 : Int32) (m : ct_M) (kv0 : ct_K 2 v0), wb_X2_add_13 Q n v0 v1 v3 v4 m → ct_J p l e rm_X2_add s mth args below meth c 7 D cy o ct_NN 0 0 (MQ below (va_Qv Q (ct_P D cy o ct_NN) (fun q => o ≤ q)) args s 0 0 (fun q => o ≤ q)) m 13 [(0, .ref (o + v0)), (1, .long v1), (3, .int v3), (4, .int v4)] [] := by
  intro n
  induction n with
  | zero => intro v0 v1 v3 v4 m kv0 h; exact h.elim
  | succ n ih =>
    intro v0 v1 v3 v4 m kv0 h
    unfold wb_X2_add_13 at h
    refine ct_iload C dX2_add_13 3 rfl ?_
    refine ct_sipush C dX2_add_15 (2048 : Int32) (by decide) ?_
    refine ct_icmp_ge C dX2_add_18 83 (by decide) (fun hc1 => ?_) (fun hc1 => ?_)
    · have h := h.1 hc1
      exact ct_vret C hr hlk dX2_add_83 h
    · have h := h.2 hc1
      refine ct_iload_n C dX2_add_21 2 rfl rfl ?_
      refine ct_iload C dX2_add_22 3 rfl ?_
      refine ct_iadd C dX2_add_24 ?_
      refine ct_sipush C dX2_add_25 (2047 : Int32) (by decide) ?_
      refine ct_iand C dX2_add_28 ?_
      refine ct_topi (fun x2 ex2 => ?_)
      have h := h x2 ex2
      refine ct_istore C dX2_add_29 [(5, .int x2), (0, .ref (o + v0)), (1, .long v1), (3, .int v3), (4, .int v4)] (by decide) rfl ?_
      refine ct_aload_n C dX2_add_31 1 rfl rfl ?_
      refine gf_X2_13 C dX2_add_32 kv0 ?_
      have hk3 := ct_t2_2 kv0
      refine ct_iload C dX2_add_35 0 rfl ?_
      refine ct_iald C dX2_add_37 hk3 h.1 ?_
      have h := h.2
      refine ct_topi (fun x4 ex4 => ?_)
      have h := h x4 ex4
      refine ct_istore C dX2_add_38 [(6, .int x4), (5, .int x2), (0, .ref (o + v0)), (1, .long v1), (3, .int v3), (4, .int v4)] (by decide) rfl ?_
      refine ct_iload C dX2_add_40 0 rfl ?_
      refine ct_iconst C dX2_add_42 (1 : Int32) (by decide) ?_
      refine ct_icmp_lt C dX2_add_43 54 (by decide) (fun hc5 => ?_) (fun hc5 => ?_)
      · have h := h.1 hc5
        refine ct_sub [2, 3, 1] [(0, .ref (o + v0)), (1, .long v1), (5, .int x2)] rfl ?_
        exact kb_X2_add_54 C hr hlk  kv0 h
      · have h := h.2 hc5
        refine ct_iload C dX2_add_46 0 rfl ?_
        refine ct_sipush C dX2_add_48 (1359 : Int32) (by decide) ?_
        refine ct_icmp_le C dX2_add_51 62 (by decide) (fun hc6 => ?_) (fun hc6 => ?_)
        · have h := h.1 hc6
          refine ct_aload_n C dX2_add_62 2 rfl rfl ?_
          refine gf_X2_9 C dX2_add_63 kv0 ?_
          have hk7 := ct_t2_0 kv0
          refine ct_iload C dX2_add_66 0 rfl ?_
          refine ct_iconst C dX2_add_68 (1 : Int32) (by decide) ?_
          refine ct_isub C dX2_add_69 ?_
          refine ct_lald C dX2_add_70 hk7 h.1 ?_
          have h := h.2
          refine ct_lload_n C dX2_add_71 3 rfl rfl ?_
          refine ct_lcmp C dX2_add_72 ?_
          refine ct_if_ne C dX2_add_73 77 (by decide) (fun hc8 => ?_) (fun hc8 => ?_)
          · have h := h.1 hc8
            obtain ⟨x9, ex9⟩ : ∃ z : Int32, z = v4 + (1 : Int32) := ⟨_, rfl⟩
            have h := h x9 ex9
            refine ct_iinc (k := 5) (v := x9) C dX2_add_77 [(4, .int x9), (6, .int x4), (5, .int x2), (0, .ref (o + v0)), (1, .long v1), (3, .int v3)] rfl (by rw [ex9]; rfl) (by decide) rfl ?_
            refine ct_goto C dX2_add_80 13 (by decide) ?_
            refine ct_sub [3, 4, 5, 0] [(0, .ref (o + v0)), (1, .long v1), (3, .int v3), (4, .int x9)] rfl ?_
            exact ih _ _ _ _ _ kv0 h
          · have h := h.2 hc8
            exact ct_vret C hr hlk dX2_add_76 h
        · have h := h.2 hc6
          refine ct_sub [2, 3, 1] [(0, .ref (o + v0)), (1, .long v1), (5, .int x2)] rfl ?_
          exact kb_X2_add_54 C hr hlk  kv0 h
set_option maxHeartbeats 4000000 in
set_option maxRecDepth 100000 in
theorem c_X2_add (l : Launch) (D : va_G) (cy : Nat → ClassId) (o : Nat) {a0 : Nat} {p1 : Int64} {Q : ct_M → Prop} {m : ct_M} (ka0 : ct_K 2 a0) (h : wp_X2_add a0 p1 Q m) : Met l yX2_add (ct_ws yX2_add cX2_add 7 none) rm_X2_add (va_Pc [.ref (o + a0), .long p1] (ct_P D cy o ct_NN m)) (va_Qv Q (ct_P D cy o ct_NN) (fun q => o ≤ q)) 0 0 (fun q => o ≤ q) := by
  refine ct_met l D cy o ct_NN m (by decide) (Nat.le_of_ble_eq_true rfl) (fun p e s mth args below meth c C hr hlk => ?_)
  refine ct_sub [0, 1] [(0, .ref (o + a0)), (1, .long p1)] rfl ?_
  unfold wp_X2_add at h
  refine ct_lload_n C dX2_add_0 1 rfl rfl ?_
  refine ct_ldc2 C dX2_add_1 mw_338 ?_
  refine ct_lmul C dX2_add_4 ?_
  refine ct_bipush C dX2_add_5 (53 : Int32) (by decide) ?_
  refine ct_lushr C dX2_add_7 ?_
  refine ct_l2i C dX2_add_8 ?_
  refine ct_topi (fun x1 ex1 => ?_)
  have h := h x1 ex1
  refine ct_istore_n C dX2_add_9 [(3, .int x1), (0, .ref (o + a0)), (1, .long p1)] rfl (by decide) rfl ?_
  refine ct_iconst C dX2_add_10 (0 : Int32) (by decide) ?_
  refine ct_istore C dX2_add_11 [(4, .int (0 : Int32)), (3, .int x1), (0, .ref (o + a0)), (1, .long p1)] (by decide) rfl ?_
  refine ct_sub [2, 3, 1, 0] [(0, .ref (o + a0)), (1, .long p1), (3, .int x1), (4, .int (0 : Int32))] rfl ?_
  obtain ⟨n2, h⟩ := h
  exact kb_X2_add_13 C hr hlk  n2 _ _ _ _ _ ka0 h
abbrev rm_X6_runsAt : Room := { frames := 0, cells := 0, slots := 0, locals := 0 }
set_option maxHeartbeats 4000000 in
set_option maxRecDepth 100000 in
theorem c_X6_runsAt (l : Launch) (D : va_G) (cy : Nat → ClassId) (o : Nat) {p0 : Int64} {p2 : Int32} {Q : Int32 → ct_M → Prop} {m : ct_M} (h : wp_X6_runsAt p0 p2 Q m) : Met l yX6_runsAt (ct_ws yX6_runsAt cX6_runsAt 3 (some .int)) rm_X6_runsAt (va_Pc [.long p0, .int p2] (ct_P D cy o ct_NN m)) (va_Qi Q (ct_P D cy o ct_NN) (fun q => o ≤ q)) 0 0 (fun q => o ≤ q) := by
  refine ct_met l D cy o ct_NN m (by decide) (Nat.le_of_ble_eq_true rfl) (fun p e s mth args below meth c C hr hlk => ?_)
  refine ct_sub [0, 1] [(0, .long p0), (2, .int p2)] rfl ?_
  unfold wp_X6_runsAt at h
  refine ct_lload_n C dX6_runsAt_0 0 rfl rfl ?_
  refine ct_bipush C dX6_runsAt_1 (48 : Int32) (by decide) ?_
  refine ct_iconst C dX6_runsAt_3 (2 : Int32) (by decide) ?_
  refine ct_iload_n C dX6_runsAt_4 1 rfl rfl ?_
  refine ct_imul C dX6_runsAt_5 ?_
  refine ct_iadd C dX6_runsAt_6 ?_
  refine ct_lshr C dX6_runsAt_7 ?_
  refine ct_ldc2 C dX6_runsAt_8 mw_339 ?_
  refine ct_land C dX6_runsAt_11 ?_
  refine ct_l2i C dX6_runsAt_12 ?_
  exact ct_ireti C hr hlk dX6_runsAt_13 h
abbrev rm_X6_blockedBit : Room := { frames := 0, cells := 0, slots := 0, locals := 0 }
set_option maxHeartbeats 4000000 in
set_option maxRecDepth 100000 in
theorem c_X6_blockedBit (l : Launch) (D : va_G) (cy : Nat → ClassId) (o : Nat) {p0 : Int32} {Q : Int64 → ct_M → Prop} {m : ct_M} (h : wp_X6_blockedBit p0 Q m) : Met l yX6_blockedBit (ct_ws yX6_blockedBit cX6_blockedBit 1 (some .long)) rm_X6_blockedBit (va_Pc [.int p0] (ct_P D cy o ct_NN m)) (va_Ql Q (ct_P D cy o ct_NN) (fun q => o ≤ q)) 0 0 (fun q => o ≤ q) := by
  refine ct_met l D cy o ct_NN m (by decide) (Nat.le_of_ble_eq_true rfl) (fun p e s mth args below meth c C hr hlk => ?_)
  refine ct_sub [0] [(0, .int p0)] rfl ?_
  unfold wp_X6_blockedBit at h
  refine ct_lconst C dX6_blockedBit_0 (1 : Int64) (by decide) ?_
  refine ct_bipush C dX6_blockedBit_1 (57 : Int32) (by decide) ?_
  refine ct_iload_n C dX6_blockedBit_3 0 rfl rfl ?_
  refine ct_iadd C dX6_blockedBit_4 ?_
  refine ct_lshl C dX6_blockedBit_5 ?_
  exact ct_lret C hr hlk dX6_blockedBit_6 h
abbrev rm_X6_canRun : Room := { frames := 1, cells := 0, slots := 0, locals := 22 }
set_option maxHeartbeats 4000000 in
set_option maxRecDepth 100000 in
theorem c_X6_canRun (l : Launch) (D : va_G) (cy : Nat → ClassId) (o : Nat) {p0 : Int64} {p2 : Int32} {Q : Int32 → ct_M → Prop} {m : ct_M} (h : wp_X6_canRun p0 p2 Q m) : Met l yX6_canRun (ct_ws yX6_canRun cX6_canRun 3 (some .boolean)) rm_X6_canRun (va_Pc [.long p0, .int p2] (ct_P D cy o ct_NN m)) (va_Qi Q (ct_P D cy o ct_NN) (fun q => o ≤ q)) 0 0 (fun q => o ≤ q) := by
  refine ct_met l D cy o ct_NN m (by decide) (Nat.le_of_ble_eq_true rfl) (fun p e s mth args below meth c C hr hlk => ?_)
  refine ct_sub [0, 1] [(0, .long p0), (2, .int p2)] rfl ?_
  unfold wp_X6_canRun at h
  refine ct_lload_n C dX6_canRun_0 0 rfl rfl ?_
  refine ct_iload_n C dX6_canRun_1 1 rfl rfl ?_
  refine ct_callSi (As := [.long p0, .int p2]) C (c_X6_runsAt l D cy o  h) kv_X6_119 rfl rfl (Nat.le_of_ble_eq_true rfl) ⟨rfl, rfl, Nat.le_of_ble_eq_true rfl, Nat.le_of_ble_eq_true rfl⟩ ⟨Nat.zero_le _, Nat.zero_le _⟩ dX6_canRun_2 (fun r2 m1 h => ?_)
  refine ct_if_le C dX6_canRun_5 28 (by decide) (fun hc3 => ?_) (fun hc3 => ?_)
  · have h := h.1 hc3
    refine ct_iconst C dX6_canRun_28 (0 : Int32) (by decide) ?_
    exact ct_zret C hr hlk dX6_canRun_29 (by decide) h
  · have h := h.2 hc3
    refine ct_lload_n C dX6_canRun_8 0 rfl rfl ?_
    refine ct_iload_n C dX6_canRun_9 1 rfl rfl ?_
    refine ct_callSl (As := [.int p2]) C (c_X6_failedBit l D cy o  h) kv_X6_83 rfl rfl (Nat.le_of_ble_eq_true rfl) ⟨rfl, rfl, Nat.le_of_ble_eq_true rfl, Nat.le_of_ble_eq_true rfl⟩ ⟨Nat.zero_le _, Nat.zero_le _⟩ dX6_canRun_10 (fun r5 m4 h => ?_)
    refine ct_iload_n C dX6_canRun_13 1 rfl rfl ?_
    refine ct_callSl (As := [.int p2]) C (c_X6_blockedBit l D cy o  h) kv_X6_106 rfl rfl (Nat.le_of_ble_eq_true rfl) ⟨rfl, rfl, Nat.le_of_ble_eq_true rfl, Nat.le_of_ble_eq_true rfl⟩ ⟨Nat.zero_le _, Nat.zero_le _⟩ dX6_canRun_14 (fun r7 m6 h => ?_)
    refine ct_lor C dX6_canRun_17 ?_
    refine ct_land C dX6_canRun_18 ?_
    refine ct_lconst C dX6_canRun_19 (0 : Int64) (by decide) ?_
    refine ct_lcmp C dX6_canRun_20 ?_
    refine ct_if_ne C dX6_canRun_21 28 (by decide) (fun hc8 => ?_) (fun hc8 => ?_)
    · have h := h.1 hc8
      refine ct_iconst C dX6_canRun_28 (0 : Int32) (by decide) ?_
      exact ct_zret C hr hlk dX6_canRun_29 (by decide) h
    · have h := h.2 hc8
      refine ct_iconst C dX6_canRun_24 (1 : Int32) (by decide) ?_
      refine ct_goto C dX6_canRun_25 29 (by decide) ?_
      exact ct_zret C hr hlk dX6_canRun_29 (by decide) h
abbrev rm_X6_cellValue : Room := { frames := 0, cells := 0, slots := 0, locals := 0 }
set_option maxHeartbeats 4000000 in
set_option maxRecDepth 100000 in
theorem c_X6_cellValue (l : Launch) (D : va_G) (cy : Nat → ClassId) (o : Nat) {p0 : Int64} {p2 : Int32} {Q : Int32 → ct_M → Prop} {m : ct_M} (h : wp_X6_cellValue p0 p2 Q m) : Met l yX6_cellValue (ct_ws yX6_cellValue cX6_cellValue 3 (some .int)) rm_X6_cellValue (va_Pc [.long p0, .int p2] (ct_P D cy o ct_NN m)) (va_Qi Q (ct_P D cy o ct_NN) (fun q => o ≤ q)) 0 0 (fun q => o ≤ q) := by
  refine ct_met l D cy o ct_NN m (by decide) (Nat.le_of_ble_eq_true rfl) (fun p e s mth args below meth c C hr hlk => ?_)
  refine ct_sub [0, 1] [(0, .long p0), (2, .int p2)] rfl ?_
  unfold wp_X6_cellValue at h
  refine ct_lload_n C dX6_cellValue_0 0 rfl rfl ?_
  refine ct_bipush C dX6_cellValue_1 (8 : Int32) (by decide) ?_
  refine ct_iload_n C dX6_cellValue_3 1 rfl rfl ?_
  refine ct_imul C dX6_cellValue_4 ?_
  refine ct_lshr C dX6_cellValue_5 ?_
  refine ct_ldc2 C dX6_cellValue_6 mw_346 ?_
  refine ct_land C dX6_cellValue_9 ?_
  refine ct_l2i C dX6_cellValue_10 ?_
  refine ct_bipush C dX6_cellValue_11 (99 : Int32) (by decide) ?_
  refine ct_isub C dX6_cellValue_13 ?_
  exact ct_ireti C hr hlk dX6_cellValue_14 h
abbrev rm_X6_prepare : Room := { frames := 1, cells := 0, slots := 0, locals := 22 }
set_option maxHeartbeats 4000000 in
set_option maxRecDepth 100000 in
theorem kb_X6_prepare_3 {p : Program} {l : Launch} {e : Env} {s : State} {mth : MethodId} {args : Array Value} {below : List Frame} {meth : Method} {c : Code} {D : va_G} {cy : Nat → ClassId} {o : Nat} {Q : ct_M → Prop} (C : ct_Cx p s mth c cX6_prepare 6 args RX6 D cy) (hr : meth.sig.returnType = none) (hlk : meth.locks = false) : ∀ (n : Nat) (v0 : Nat) (v1 : Nat) (v2 : Int64) (v4 : Int32) (v5 : Int32) (m : ct_M) (kv0 : ct_K 6 v0) (kv1 : ct_K 9 v1), wb_X6_prepare_3 Q n v0 v1 v2 v4 v5 m → ct_J p l e rm_X6_prepare s mth args below meth c 6 D cy o ct_NN 0 0 (MQ below (va_Qv Q (ct_P D cy o ct_NN) (fun q => o ≤ q)) args s 0 0 (fun q => o ≤ q)) m 3 [(0, .ref (o + v0)), (1, .ref (o + v1)), (2, .long v2), (4, .int v4), (5, .int v5)] [] := by
  intro n
  induction n with
  | zero => intro v0 v1 v2 v4 v5 m kv0 kv1 h; exact h.elim
  | succ n ih =>
    intro v0 v1 v2 v4 v5 m kv0 kv1 h
    unfold wb_X6_prepare_3 at h
    refine ct_iload C dX6_prepare_3 4 rfl ?_
    refine ct_bipush C dX6_prepare_5 (6 : Int32) (by decide) ?_
    refine ct_icmp_ge C dX6_prepare_7 43 (by decide) (fun hc1 => ?_) (fun hc1 => ?_)
    · have h := h.1 hc1
      refine ct_aload_n C dX6_prepare_43 1 rfl rfl ?_
      refine ct_lload_n C dX6_prepare_44 2 rfl rfl ?_
      refine ct_iload C dX6_prepare_45 3 rfl ?_
      refine ct_callSi (As := [.long v2, .int v4]) C (c_X6_runsAt l D cy o  h) kv_X6_119 rfl rfl (Nat.le_of_ble_eq_true rfl) ⟨rfl, rfl, Nat.le_of_ble_eq_true rfl, Nat.le_of_ble_eq_true rfl⟩ ⟨Nat.zero_le _, Nat.zero_le _⟩ dX6_prepare_47 (fun r3 m2 h => ?_)
      refine pf_X6_87 C dX6_prepare_50 kv1 ?_
      refine ct_mem (fun m4 em4 => ?_)
      have h := h m4 em4
      refine ct_aload_n C dX6_prepare_53 1 rfl rfl ?_
      refine ct_iconst C dX6_prepare_54 (0 : Int32) (by decide) ?_
      refine ct_callVv (As := [.int (0 : Int32)]) (T := TX9) C (c_X9_become l D cy o kv1 h) kv_X6_122 kv1.1 (ct_E9 kv1) rfl rfl rfl (Nat.le_of_ble_eq_true rfl) ⟨rfl, rfl, Nat.le_of_ble_eq_true rfl, Nat.le_of_ble_eq_true rfl⟩ ⟨Nat.zero_le _, Nat.zero_le _⟩ dX6_prepare_55 (fun m5 h => ?_)
      exact ct_vret C hr hlk dX6_prepare_58 h
    · have h := h.2 hc1
      refine ct_aload_n C dX6_prepare_10 0 rfl rfl ?_
      refine gf_X6_26 C dX6_prepare_11 kv0 ?_
      have hk6 := ct_t6_0 kv0
      refine gf_X6_66 C dX6_prepare_14 hk6 ?_
      have hk7 := ct_t10_0 hk6
      refine ct_iload C dX6_prepare_17 4 rfl ?_
      refine ct_lload_n C dX6_prepare_19 2 rfl rfl ?_
      refine ct_iload C dX6_prepare_20 4 rfl ?_
      refine ct_callSi (As := [.long v2, .int v5]) C (c_X6_cellValue l D cy o  h) kv_X6_112 rfl rfl (Nat.le_of_ble_eq_true rfl) ⟨rfl, rfl, Nat.le_of_ble_eq_true rfl, Nat.le_of_ble_eq_true rfl⟩ ⟨Nat.zero_le _, Nat.zero_le _⟩ dX6_prepare_22 (fun r9 m8 h => ?_)
      refine ct_iast C dX6_prepare_25 hk7 h.1 ?_
      have h := h.2
      refine ct_mem (fun m10 em10 => ?_)
      have h := h m10 em10
      refine ct_aload_n C dX6_prepare_26 0 rfl rfl ?_
      refine gf_X6_26 C dX6_prepare_27 kv0 ?_
      refine gf_X6_116 C dX6_prepare_30 hk6 ?_
      have hk11 := ct_t10_1 hk6
      refine ct_iload C dX6_prepare_33 4 rfl ?_
      refine ct_iconst C dX6_prepare_35 (0 : Int32) (by decide) ?_
      refine ct_iast C dX6_prepare_36 hk11 h.1 ?_
      have h := h.2
      refine ct_mem (fun m12 em12 => ?_)
      have h := h m12 em12
      obtain ⟨x13, ex13⟩ : ∃ z : Int32, z = v5 + (1 : Int32) := ⟨_, rfl⟩
      have h := h x13 ex13
      refine ct_iinc (k := 4) (v := x13) C dX6_prepare_37 [(5, .int x13), (0, .ref (o + v0)), (1, .ref (o + v1)), (2, .long v2), (4, .int v4)] rfl (by rw [ex13]; rfl) (by decide) rfl ?_
      refine ct_goto C dX6_prepare_40 3 (by decide) ?_
      refine ct_sub [1, 2, 3, 4, 0] [(0, .ref (o + v0)), (1, .ref (o + v1)), (2, .long v2), (4, .int v4), (5, .int x13)] rfl ?_
      exact ih _ _ _ _ _ _ kv0 kv1 h
set_option maxHeartbeats 4000000 in
set_option maxRecDepth 100000 in
theorem c_X6_prepare (l : Launch) (D : va_G) (cy : Nat → ClassId) (o : Nat) {a0 : Nat} {a1 : Nat} {p2 : Int64} {p4 : Int32} {Q : ct_M → Prop} {m : ct_M} (ka0 : ct_K 6 a0) (ka1 : ct_K 9 a1) (h : wp_X6_prepare a0 a1 p2 p4 Q m) : Met l yX6_prepare (ct_ws yX6_prepare cX6_prepare 6 none) rm_X6_prepare (va_Pc [.ref (o + a0), .ref (o + a1), .long p2, .int p4] (ct_P D cy o ct_NN m)) (va_Qv Q (ct_P D cy o ct_NN) (fun q => o ≤ q)) 0 0 (fun q => o ≤ q) := by
  refine ct_met l D cy o ct_NN m (by decide) (Nat.le_of_ble_eq_true rfl) (fun p e s mth args below meth c C hr hlk => ?_)
  refine ct_sub [0, 1, 2, 3] [(0, .ref (o + a0)), (1, .ref (o + a1)), (2, .long p2), (4, .int p4)] rfl ?_
  unfold wp_X6_prepare at h
  refine ct_iconst C dX6_prepare_0 (0 : Int32) (by decide) ?_
  refine ct_istore C dX6_prepare_1 [(5, .int (0 : Int32)), (0, .ref (o + a0)), (1, .ref (o + a1)), (2, .long p2), (4, .int p4)] (by decide) rfl ?_
  refine ct_sub [1, 2, 3, 4, 0] [(0, .ref (o + a0)), (1, .ref (o + a1)), (2, .long p2), (4, .int p4), (5, .int (0 : Int32))] rfl ?_
  obtain ⟨n1, h⟩ := h
  exact kb_X6_prepare_3 C hr hlk  n1 _ _ _ _ _ _ ka0 ka1 h
abbrev rm_X6_afterCommit : Room := { frames := 1, cells := 0, slots := 0, locals := 23 }
set_option maxHeartbeats 4000000 in
set_option maxRecDepth 100000 in
theorem kb_X6_afterCommit_44 {p : Program} {l : Launch} {e : Env} {s : State} {mth : MethodId} {args : Array Value} {below : List Frame} {meth : Method} {c : Code} {D : va_G} {cy : Nat → ClassId} {o : Nat} {Q : Int64 → ct_M → Prop} {K16 : Nat → Int64 → Int32 → ct_M → Prop} {v0 : Nat} {v4 : Int64} {v6 : Int32} {m : ct_M} (C : ct_Cx p s mth c cX6_afterCommit 7 args RX6 D cy) (hr : meth.sig.returnType = (some .long)) (hlk : meth.locks = false) (hK16 : ∀ (v0 : Nat) (v4 : Int64) (v6 : Int32) (m : ct_M), ct_K 6 v0 → K16 v0 v4 v6 m → ct_J p l e rm_X6_afterCommit s mth args below meth c 7 D cy o ct_NN 0 0 (MQ below (va_Ql Q (ct_P D cy o ct_NN) (fun q => o ≤ q)) args s 0 0 (fun q => o ≤ q)) m 16 [(0, .ref (o + v0)), (4, .long v4), (6, .int v6)] []) (kv0 : ct_K 6 v0) (h : wb_X6_afterCommit_44 K16 Q v0 v4 v6 m) : ct_J p l e rm_X6_afterCommit s mth args below meth c 7 D cy o ct_NN 0 0 (MQ below (va_Ql Q (ct_P D cy o ct_NN) (fun q => o ≤ q)) args s 0 0 (fun q => o ≤ q)) m 44 [(0, .ref (o + v0)), (4, .long v4), (6, .int v6)] [] := by
  unfold wb_X6_afterCommit_44 at h
  obtain ⟨x1, ex1⟩ : ∃ z : Int32, z = v6 + (1 : Int32) := ⟨_, rfl⟩
  have h := h x1 ex1
  refine ct_iinc (k := 2) (v := x1) C dX6_afterCommit_44 [(6, .int x1), (0, .ref (o + v0)), (4, .long v4)] rfl (by rw [ex1]; rfl) (by decide) rfl ?_
  refine ct_goto C dX6_afterCommit_47 16 (by decide) ?_
  refine ct_sub [1, 2, 0] [(0, .ref (o + v0)), (4, .long v4), (6, .int x1)] rfl ?_
  exact hK16 _ _ _ _ kv0 h
set_option maxHeartbeats 4000000 in
set_option maxRecDepth 100000 in
theorem kb_X6_afterCommit_16 {p : Program} {l : Launch} {e : Env} {s : State} {mth : MethodId} {args : Array Value} {below : List Frame} {meth : Method} {c : Code} {D : va_G} {cy : Nat → ClassId} {o : Nat} {Q : Int64 → ct_M → Prop} (C : ct_Cx p s mth c cX6_afterCommit 7 args RX6 D cy) (hr : meth.sig.returnType = (some .long)) (hlk : meth.locks = false) : ∀ (n : Nat) (v0 : Nat) (v4 : Int64) (v6 : Int32) (m : ct_M) (kv0 : ct_K 6 v0), wb_X6_afterCommit_16 Q n v0 v4 v6 m → ct_J p l e rm_X6_afterCommit s mth args below meth c 7 D cy o ct_NN 0 0 (MQ below (va_Ql Q (ct_P D cy o ct_NN) (fun q => o ≤ q)) args s 0 0 (fun q => o ≤ q)) m 16 [(0, .ref (o + v0)), (4, .long v4), (6, .int v6)] [] := by
  intro n
  induction n with
  | zero => intro v0 v4 v6 m kv0 h; exact h.elim
  | succ n ih =>
    intro v0 v4 v6 m kv0 h
    unfold wb_X6_afterCommit_16 at h
    refine ct_iload C dX6_afterCommit_16 2 rfl ?_
    refine ct_bipush C dX6_afterCommit_18 (6 : Int32) (by decide) ?_
    refine ct_icmp_ge C dX6_afterCommit_20 50 (by decide) (fun hc1 => ?_) (fun hc1 => ?_)
    · have h := h.1 hc1
      refine ct_lload C dX6_afterCommit_50 1 rfl ?_
      refine ct_aload_n C dX6_afterCommit_52 0 rfl rfl ?_
      refine gf_X6_26 C dX6_afterCommit_53 kv0 ?_
      have hk2 := ct_t6_0 kv0
      refine gf_X6_66 C dX6_afterCommit_56 hk2 ?_
      have hk3 := ct_t10_0 hk2
      refine ct_callSl (As := [.ref (o + ((v0 + 7) + 1))]) C (c_X6_valueBits l D cy o hk3 h) kv_X6_70 rfl rfl (Nat.le_of_ble_eq_true rfl) ⟨rfl, rfl, Nat.le_of_ble_eq_true rfl, Nat.le_of_ble_eq_true rfl⟩ ⟨Nat.zero_le _, Nat.zero_le _⟩ dX6_afterCommit_59 (fun r5 m4 h => ?_)
      refine ct_lor C dX6_afterCommit_62 ?_
      exact ct_lret C hr hlk dX6_afterCommit_63 h
    · have h := h.2 hc1
      refine ct_aload_n C dX6_afterCommit_23 0 rfl rfl ?_
      refine gf_X6_26 C dX6_afterCommit_24 kv0 ?_
      have hk6 := ct_t6_0 kv0
      refine gf_X6_116 C dX6_afterCommit_27 hk6 ?_
      have hk7 := ct_t10_1 hk6
      refine ct_iload C dX6_afterCommit_30 2 rfl ?_
      refine ct_iald C dX6_afterCommit_32 hk7 h.1 ?_
      have h := h.2
      refine ct_if_le C dX6_afterCommit_33 44 (by decide) (fun hc8 => ?_) (fun hc8 => ?_)
      · have h := h.1 hc8
        refine ct_sub [0, 1, 2] [(0, .ref (o + v0)), (4, .long v4), (6, .int v6)] rfl ?_
        exact kb_X6_afterCommit_44 C hr hlk ih kv0 h
      · have h := h.2 hc8
        refine ct_lload C dX6_afterCommit_36 1 rfl ?_
        refine ct_ldc2 C dX6_afterCommit_38 mw_352 ?_
        refine ct_land C dX6_afterCommit_41 ?_
        refine ct_topl (fun x9 ex9 => ?_)
        have h := h x9 ex9
        refine ct_lstore C dX6_afterCommit_42 [(4, .long x9), (0, .ref (o + v0)), (6, .int v6)] (by decide) rfl ?_
        refine ct_sub [1, 0, 2] [(0, .ref (o + v0)), (4, .long x9), (6, .int v6)] rfl ?_
        exact kb_X6_afterCommit_44 C hr hlk ih kv0 h
set_option maxHeartbeats 4000000 in
set_option maxRecDepth 100000 in
theorem c_X6_afterCommit (l : Launch) (D : va_G) (cy : Nat → ClassId) (o : Nat) {a0 : Nat} {p1 : Int64} {p3 : Int32} {Q : Int64 → ct_M → Prop} {m : ct_M} (ka0 : ct_K 6 a0) (h : wp_X6_afterCommit a0 p1 p3 Q m) : Met l yX6_afterCommit (ct_ws yX6_afterCommit cX6_afterCommit 7 (some .long)) rm_X6_afterCommit (va_Pc [.ref (o + a0), .long p1, .int p3] (ct_P D cy o ct_NN m)) (va_Ql Q (ct_P D cy o ct_NN) (fun q => o ≤ q)) 0 0 (fun q => o ≤ q) := by
  refine ct_met l D cy o ct_NN m (by decide) (Nat.le_of_ble_eq_true rfl) (fun p e s mth args below meth c C hr hlk => ?_)
  refine ct_sub [0, 1, 2] [(0, .ref (o + a0)), (1, .long p1), (3, .int p3)] rfl ?_
  unfold wp_X6_afterCommit at h
  refine ct_lload_n C dX6_afterCommit_0 1 rfl rfl ?_
  refine ct_ldc2 C dX6_afterCommit_1 mw_353 ?_
  refine ct_land C dX6_afterCommit_4 ?_
  refine ct_iconst C dX6_afterCommit_5 (1 : Int32) (by decide) ?_
  refine ct_iload_n C dX6_afterCommit_6 2 rfl rfl ?_
  refine ct_callSl (As := [.int (1 : Int32), .int p3]) C (c_X6_runBits l D cy o  h) kv_X6_90 rfl rfl (Nat.le_of_ble_eq_true rfl) ⟨rfl, rfl, Nat.le_of_ble_eq_true rfl, Nat.le_of_ble_eq_true rfl⟩ ⟨Nat.zero_le _, Nat.zero_le _⟩ dX6_afterCommit_7 (fun r2 m1 h => ?_)
  refine ct_lsub C dX6_afterCommit_10 ?_
  refine ct_topl (fun x3 ex3 => ?_)
  have h := h x3 ex3
  refine ct_lstore C dX6_afterCommit_11 [(4, .long x3), (0, .ref (o + a0)), (1, .long p1), (3, .int p3)] (by decide) rfl ?_
  refine ct_iconst C dX6_afterCommit_13 (0 : Int32) (by decide) ?_
  refine ct_istore C dX6_afterCommit_14 [(6, .int (0 : Int32)), (4, .long x3), (0, .ref (o + a0)), (1, .long p1), (3, .int p3)] (by decide) rfl ?_
  refine ct_sub [2, 1, 0] [(0, .ref (o + a0)), (4, .long x3), (6, .int (0 : Int32))] rfl ?_
  obtain ⟨n4, h⟩ := h
  exact kb_X6_afterCommit_16 C hr hlk  n4 _ _ _ _ ka0 h
abbrev rm_X6_afterTransaction : Room := { frames := 5, cells := 0, slots := 0, locals := 112 }
set_option maxHeartbeats 4000000 in
set_option maxRecDepth 100000 in
theorem kb_X6_afterTransaction_67 {p : Program} {l : Launch} {e : Env} {s : State} {mth : MethodId} {args : Array Value} {below : List Frame} {meth : Method} {c : Code} {D : va_G} {cy : Nat → ClassId} {o : Nat} {Q : Int64 → ct_M → Prop} {v0 : Nat} {v1 : Int64} {v3 : Int32} {v5 : Int32} {m : ct_M} (C : ct_Cx p s mth c cX6_afterTransaction 7 args RX6 D cy) (hr : meth.sig.returnType = (some .long)) (hlk : meth.locks = false) (kv0 : ct_K 6 v0) (h : wb_X6_afterTransaction_67 Q v0 v1 v3 v5 m) : ct_J p l e rm_X6_afterTransaction s mth args below meth c 7 D cy o ct_NN 0 0 (MQ below (va_Ql Q (ct_P D cy o ct_NN) (fun q => o ≤ q)) args s 0 0 (fun q => o ≤ q)) m 67 [(0, .ref (o + v0)), (1, .long v1), (3, .int v3), (5, .int v5)] [] := by
  unfold wb_X6_afterTransaction_67 at h
  refine ct_iload C dX6_afterTransaction_67 3 rfl ?_
  refine ct_iconst C dX6_afterTransaction_69 (3 : Int32) (by decide) ?_
  refine ct_icmp_ne C dX6_afterTransaction_70 80 (by decide) (fun hc1 => ?_) (fun hc1 => ?_)
  · have h := h.1 hc1
    refine ct_iload C dX6_afterTransaction_80 3 rfl ?_
    refine ct_iconst C dX6_afterTransaction_82 (1 : Int32) (by decide) ?_
    refine ct_icmp_ne C dX6_afterTransaction_83 93 (by decide) (fun hc2 => ?_) (fun hc2 => ?_)
    · have h := h.1 hc2
      refine ct_lload_n C dX6_afterTransaction_93 1 rfl rfl ?_
      refine ct_iload_n C dX6_afterTransaction_94 2 rfl rfl ?_
      refine ct_callSl (As := [.int v3]) C (c_X6_failedBit l D cy o  h) kv_X6_83 rfl rfl (Nat.le_of_ble_eq_true rfl) ⟨rfl, rfl, Nat.le_of_ble_eq_true rfl, Nat.le_of_ble_eq_true rfl⟩ ⟨Nat.zero_le _, Nat.zero_le _⟩ dX6_afterTransaction_95 (fun r4 m3 h => ?_)
      refine ct_lor C dX6_afterTransaction_98 ?_
      exact ct_lret C hr hlk dX6_afterTransaction_99 h
    · have h := h.2 hc2
      refine ct_aload_n C dX6_afterTransaction_86 0 rfl rfl ?_
      refine ct_lload_n C dX6_afterTransaction_87 1 rfl rfl ?_
      refine ct_iload_n C dX6_afterTransaction_88 2 rfl rfl ?_
      refine ct_callVl (As := [.long v1, .int v3]) (T := TX6) C (c_X6_afterCommit l D cy o kv0 h) kv_X6_109 kv0.1 (ct_E6 kv0) rfl rfl rfl (Nat.le_of_ble_eq_true rfl) ⟨rfl, rfl, Nat.le_of_ble_eq_true rfl, Nat.le_of_ble_eq_true rfl⟩ ⟨Nat.zero_le _, Nat.zero_le _⟩ dX6_afterTransaction_89 (fun r6 m5 h => ?_)
      exact ct_lret C hr hlk dX6_afterTransaction_92 h
  · have h := h.2 hc1
    refine ct_lload_n C dX6_afterTransaction_73 1 rfl rfl ?_
    refine ct_iload_n C dX6_afterTransaction_74 2 rfl rfl ?_
    refine ct_callSl (As := [.int v3]) C (c_X6_blockedBit l D cy o  h) kv_X6_106 rfl rfl (Nat.le_of_ble_eq_true rfl) ⟨rfl, rfl, Nat.le_of_ble_eq_true rfl, Nat.le_of_ble_eq_true rfl⟩ ⟨Nat.zero_le _, Nat.zero_le _⟩ dX6_afterTransaction_75 (fun r8 m7 h => ?_)
    refine ct_lor C dX6_afterTransaction_78 ?_
    exact ct_lret C hr hlk dX6_afterTransaction_79 h
set_option maxHeartbeats 4000000 in
set_option maxRecDepth 100000 in
theorem kb_X6_afterTransaction_38 {p : Program} {l : Launch} {e : Env} {s : State} {mth : MethodId} {args : Array Value} {below : List Frame} {meth : Method} {c : Code} {D : va_G} {cy : Nat → ClassId} {o : Nat} {Q : Int64 → ct_M → Prop} (C : ct_Cx p s mth c cX6_afterTransaction 7 args RX6 D cy) (hr : meth.sig.returnType = (some .long)) (hlk : meth.locks = false) : ∀ (n : Nat) (v0 : Nat) (v1 : Int64) (v3 : Int32) (v4 : Nat) (v5 : Int32) (v6 : Int32) (m : ct_M) (kv0 : ct_K 6 v0) (kv4 : ct_K 9 v4), wb_X6_afterTransaction_38 Q n v0 v1 v3 v4 v5 v6 m → ct_J p l e rm_X6_afterTransaction s mth args below meth c 7 D cy o ct_NN 0 0 (MQ below (va_Ql Q (ct_P D cy o ct_NN) (fun q => o ≤ q)) args s 0 0 (fun q => o ≤ q)) m 38 [(0, .ref (o + v0)), (1, .long v1), (3, .int v3), (4, .ref (o + v4)), (5, .int v5), (6, .int v6)] [] := by
  intro n
  induction n with
  | zero => intro v0 v1 v3 v4 v5 v6 m kv0 kv4 h; exact h.elim
  | succ n ih =>
    intro v0 v1 v3 v4 v5 v6 m kv0 kv4 h
    unfold wb_X6_afterTransaction_38 at h
    refine ct_iload C dX6_afterTransaction_38 5 rfl ?_
    refine ct_bipush C dX6_afterTransaction_40 (60 : Int32) (by decide) ?_
    refine ct_icmp_ge C dX6_afterTransaction_42 67 (by decide) (fun hc1 => ?_) (fun hc1 => ?_)
    · have h := h.1 hc1
      refine ct_sub [0, 1, 2, 4] [(0, .ref (o + v0)), (1, .long v1), (3, .int v3), (5, .int v5)] rfl ?_
      exact kb_X6_afterTransaction_67 C hr hlk  kv0 h
    · have h := h.2 hc1
      refine ct_iload C dX6_afterTransaction_45 4 rfl ?_
      refine ct_if_ne C dX6_afterTransaction_47 67 (by decide) (fun hc2 => ?_) (fun hc2 => ?_)
      · have h := h.1 hc2
        refine ct_sub [0, 1, 2, 4] [(0, .ref (o + v0)), (1, .long v1), (3, .int v3), (5, .int v5)] rfl ?_
        exact kb_X6_afterTransaction_67 C hr hlk  kv0 h
      · have h := h.2 hc2
        refine ct_aload_n C dX6_afterTransaction_50 0 rfl rfl ?_
        refine gf_X6_26 C dX6_afterTransaction_51 kv0 ?_
        have hk3 := ct_t6_0 kv0
        refine ct_aload C dX6_afterTransaction_54 3 rfl ?_
        refine ct_callVi (As := [.ref (o + v4)]) (T := TX10) C (c_X10_advance l D cy o hk3 kv4 h) kv_X6_102 hk3.1 (ct_E10 hk3) rfl rfl rfl (Nat.le_of_ble_eq_true rfl) ⟨rfl, rfl, Nat.le_of_ble_eq_true rfl, Nat.le_of_ble_eq_true rfl⟩ ⟨Nat.zero_le _, Nat.zero_le _⟩ dX6_afterTransaction_56 (fun r5 m4 h => ?_)
        refine ct_istore C dX6_afterTransaction_59 [(5, .int r5), (0, .ref (o + v0)), (1, .long v1), (3, .int v3), (4, .ref (o + v4)), (6, .int v6)] (by decide) rfl ?_
        obtain ⟨x6, ex6⟩ : ∃ z : Int32, z = v6 + (1 : Int32) := ⟨_, rfl⟩
        have h := h x6 ex6
        refine ct_iinc (k := 5) (v := x6) C dX6_afterTransaction_61 [(6, .int x6), (5, .int r5), (0, .ref (o + v0)), (1, .long v1), (3, .int v3), (4, .ref (o + v4))] rfl (by rw [ex6]; rfl) (by decide) rfl ?_
        refine ct_goto C dX6_afterTransaction_64 38 (by decide) ?_
        refine ct_sub [2, 3, 4, 5, 1, 0] [(0, .ref (o + v0)), (1, .long v1), (3, .int v3), (4, .ref (o + v4)), (5, .int r5), (6, .int x6)] rfl ?_
        exact ih _ _ _ _ _ _ _ kv0 kv4 h
set_option maxHeartbeats 4000000 in
set_option maxRecDepth 100000 in
theorem c_X6_afterTransaction (l : Launch) (D : va_G) (cy : Nat → ClassId) (o : Nat) {a0 : Nat} {p1 : Int64} {p3 : Int32} {Q : Int64 → ct_M → Prop} {m : ct_M} (ka0 : ct_K 6 a0) (h : wp_X6_afterTransaction a0 p1 p3 Q m) : Met l yX6_afterTransaction (ct_ws yX6_afterTransaction cX6_afterTransaction 7 (some .long)) rm_X6_afterTransaction (va_Pc [.ref (o + a0), .long p1, .int p3] (ct_P D cy o ct_NN m)) (va_Ql Q (ct_P D cy o ct_NN) (fun q => o ≤ q)) 0 0 (fun q => o ≤ q) := by
  refine ct_met l D cy o ct_NN m (by decide) (Nat.le_of_ble_eq_true rfl) (fun p e s mth args below meth c C hr hlk => ?_)
  refine ct_sub [0, 1, 2] [(0, .ref (o + a0)), (1, .long p1), (3, .int p3)] rfl ?_
  unfold wp_X6_afterTransaction at h
  refine ct_aload_n C dX6_afterTransaction_0 0 rfl rfl ?_
  refine gf_X6_26 C dX6_afterTransaction_1 ka0 ?_
  have hk1 := ct_t6_0 ka0
  refine ct_iload_n C dX6_afterTransaction_4 2 rfl rfl ?_
  refine ct_callVi (As := [.int p3]) (T := TX10) C (c_X10_hasThread l D cy o hk1 h) kv_X6_94 hk1.1 (ct_E10 hk1) rfl rfl rfl (Nat.le_of_ble_eq_true rfl) ⟨rfl, rfl, Nat.le_of_ble_eq_true rfl, Nat.le_of_ble_eq_true rfl⟩ ⟨Nat.zero_le _, Nat.zero_le _⟩ dX6_afterTransaction_5 (fun r3 m2 h => ?_)
  refine ct_if_ne C dX6_afterTransaction_8 13 (by decide) (fun hc4 => ?_) (fun hc4 => ?_)
  · have h := h.1 hc4
    refine ct_aload_n C dX6_afterTransaction_13 0 rfl rfl ?_
    refine gf_X6_26 C dX6_afterTransaction_14 ka0 ?_
    refine gf_X6_74 C dX6_afterTransaction_17 hk1 ?_
    have hk5 := ct_t10_2 hk1
    refine ct_iload_n C dX6_afterTransaction_20 2 rfl rfl ?_
    refine ct_aald19 C dX6_afterTransaction_21 hk5 h.1 ?_
    have hk6 := ct_e19 hk5 (ct_vin h.1)
    have h := h.2
    refine ct_astore C dX6_afterTransaction_22 [(4, .ref (o + (((a0 + 7) + 3) + 4 + 15 * p3.toNatClampNeg))), (0, .ref (o + a0)), (1, .long p1), (3, .int p3)] (by decide) rfl ?_
    refine ct_aload_n C dX6_afterTransaction_24 1 rfl rfl ?_
    refine ct_aload C dX6_afterTransaction_25 0 rfl ?_
    refine ct_lload_n C dX6_afterTransaction_27 2 rfl rfl ?_
    refine ct_iload_n C dX6_afterTransaction_28 3 rfl rfl ?_
    refine ct_callVv (As := [.ref (o + (((a0 + 7) + 3) + 4 + 15 * p3.toNatClampNeg)), .long p1, .int p3]) (T := TX6) C (c_X6_prepare l D cy o ka0 hk6 h) kv_X6_98 ka0.1 (ct_E6 ka0) rfl rfl rfl (Nat.le_of_ble_eq_true rfl) ⟨rfl, rfl, Nat.le_of_ble_eq_true rfl, Nat.le_of_ble_eq_true rfl⟩ ⟨Nat.zero_le _, Nat.zero_le _⟩ dX6_afterTransaction_29 (fun m7 h => ?_)
    refine ct_iconst C dX6_afterTransaction_32 (0 : Int32) (by decide) ?_
    refine ct_istore C dX6_afterTransaction_33 [(5, .int (0 : Int32)), (4, .ref (o + (((a0 + 7) + 3) + 4 + 15 * p3.toNatClampNeg))), (0, .ref (o + a0)), (1, .long p1), (3, .int p3)] (by decide) rfl ?_
    refine ct_iconst C dX6_afterTransaction_35 (0 : Int32) (by decide) ?_
    refine ct_istore C dX6_afterTransaction_36 [(6, .int (0 : Int32)), (5, .int (0 : Int32)), (4, .ref (o + (((a0 + 7) + 3) + 4 + 15 * p3.toNatClampNeg))), (0, .ref (o + a0)), (1, .long p1), (3, .int p3)] (by decide) rfl ?_
    refine ct_sub [3, 4, 5, 2, 1, 0] [(0, .ref (o + a0)), (1, .long p1), (3, .int p3), (4, .ref (o + (((a0 + 7) + 3) + 4 + 15 * p3.toNatClampNeg))), (5, .int (0 : Int32)), (6, .int (0 : Int32))] rfl ?_
    obtain ⟨n8, h⟩ := h
    exact kb_X6_afterTransaction_38 C hr hlk  n8 _ _ _ _ _ _ _ ka0 hk6 h
  · have h := h.2 hc4
    refine ct_lload_n C dX6_afterTransaction_11 1 rfl rfl ?_
    exact ct_lret C hr hlk dX6_afterTransaction_12 h
abbrev rm_X6_explore : Room := { frames := 6, cells := 0, slots := 0, locals := 138 }
set_option maxHeartbeats 4000000 in
set_option maxRecDepth 100000 in
theorem kb_X6_explore_136 {p : Program} {l : Launch} {e : Env} {s : State} {mth : MethodId} {args : Array Value} {below : List Frame} {meth : Method} {c : Code} {D : va_G} {cy : Nat → ClassId} {o : Nat} {Q : ct_M → Prop} {K35 : Nat → Int32 → ct_M → Prop} {v0 : Nat} {v2 : Int32} {m : ct_M} (C : ct_Cx p s mth c cX6_explore 7 args RX6 D cy) (hr : meth.sig.returnType = none) (hlk : meth.locks = false) (hK35 : ∀ (v0 : Nat) (v2 : Int32) (m : ct_M), ct_K 6 v0 → K35 v0 v2 m → ct_J p l e rm_X6_explore s mth args below meth c 7 D cy o ct_NN 0 0 (MQ below (va_Qv Q (ct_P D cy o ct_NN) (fun q => o ≤ q)) args s 0 0 (fun q => o ≤ q)) m 35 [(0, .ref (o + v0)), (2, .int v2)] []) (kv0 : ct_K 6 v0) (h : wb_X6_explore_136 K35 Q v0 v2 m) : ct_J p l e rm_X6_explore s mth args below meth c 7 D cy o ct_NN 0 0 (MQ below (va_Qv Q (ct_P D cy o ct_NN) (fun q => o ≤ q)) args s 0 0 (fun q => o ≤ q)) m 136 [(0, .ref (o + v0)), (2, .int v2)] [] := by
  unfold wb_X6_explore_136 at h
  obtain ⟨x1, ex1⟩ : ∃ z : Int32, z = v2 + (1 : Int32) := ⟨_, rfl⟩
  have h := h x1 ex1
  refine ct_iinc (k := 1) (v := x1) C dX6_explore_136 [(2, .int x1), (0, .ref (o + v0))] rfl (by rw [ex1]; rfl) (by decide) rfl ?_
  refine ct_goto C dX6_explore_139 35 (by decide) ?_
  refine ct_sub [1, 0] [(0, .ref (o + v0)), (2, .int x1)] rfl ?_
  exact hK35 _ _ _ kv0 h
set_option maxHeartbeats 4000000 in
set_option maxRecDepth 100000 in
theorem kb_X6_explore_119 {p : Program} {l : Launch} {e : Env} {s : State} {mth : MethodId} {args : Array Value} {below : List Frame} {meth : Method} {c : Code} {D : va_G} {cy : Nat → ClassId} {o : Nat} {Q : ct_M → Prop} {K35 : Nat → Int32 → ct_M → Prop} {v0 : Nat} {v2 : Int32} {v3 : Int64} {v5 : Int32} {m : ct_M} (C : ct_Cx p s mth c cX6_explore 7 args RX6 D cy) (hr : meth.sig.returnType = none) (hlk : meth.locks = false) (hK35 : ∀ (v0 : Nat) (v2 : Int32) (m : ct_M), ct_K 6 v0 → K35 v0 v2 m → ct_J p l e rm_X6_explore s mth args below meth c 7 D cy o ct_NN 0 0 (MQ below (va_Qv Q (ct_P D cy o ct_NN) (fun q => o ≤ q)) args s 0 0 (fun q => o ≤ q)) m 35 [(0, .ref (o + v0)), (2, .int v2)] []) (kv0 : ct_K 6 v0) (h : wb_X6_explore_119 K35 Q v0 v2 v3 v5 m) : ct_J p l e rm_X6_explore s mth args below meth c 7 D cy o ct_NN 0 0 (MQ below (va_Qv Q (ct_P D cy o ct_NN) (fun q => o ≤ q)) args s 0 0 (fun q => o ≤ q)) m 119 [(0, .ref (o + v0)), (2, .int v2), (3, .long v3), (5, .int v5)] [] := by
  unfold wb_X6_explore_119 at h
  refine ct_iload C dX6_explore_119 3 rfl ?_
  refine ct_if_eq C dX6_explore_121 136 (by decide) (fun hc1 => ?_) (fun hc1 => ?_)
  · have h := h.1 hc1
    refine ct_sub [0, 1] [(0, .ref (o + v0)), (2, .int v2)] rfl ?_
    exact kb_X6_explore_136 C hr hlk hK35 kv0 h
  · have h := h.2 hc1
    refine ct_aload_n C dX6_explore_124 0 rfl rfl ?_
    refine gf_X6_18 C dX6_explore_125 kv0 ?_
    have hk2 := ct_t6_2 kv0
    refine ct_lload_n C dX6_explore_128 2 rfl rfl ?_
    refine ct_ldc2 C dX6_explore_129 mw_365 ?_
    refine ct_land C dX6_explore_132 ?_
    refine ct_callVv (As := [.long (v3 &&& (-17732923532771329 : Int64))]) (T := TX2) C (c_X2_add l D cy o hk2 h) kv_X6_41 hk2.1 (ct_E2 hk2) rfl rfl rfl (Nat.le_of_ble_eq_true rfl) ⟨rfl, rfl, Nat.le_of_ble_eq_true rfl, Nat.le_of_ble_eq_true rfl⟩ ⟨Nat.zero_le _, Nat.zero_le _⟩ dX6_explore_133 (fun m3 h => ?_)
    refine ct_sub [0, 1] [(0, .ref (o + v0)), (2, .int v2)] rfl ?_
    exact kb_X6_explore_136 C hr hlk hK35 kv0 h
set_option maxHeartbeats 4000000 in
set_option maxRecDepth 100000 in
theorem kb_X6_explore_113 {p : Program} {l : Launch} {e : Env} {s : State} {mth : MethodId} {args : Array Value} {below : List Frame} {meth : Method} {c : Code} {D : va_G} {cy : Nat → ClassId} {o : Nat} {Q : ct_M → Prop} {K35 : Nat → Int32 → ct_M → Prop} {K69 : Nat → Int32 → Int64 → Int32 → Int32 → ct_M → Prop} {v0 : Nat} {v2 : Int32} {v3 : Int64} {v5 : Int32} {v6 : Int32} {m : ct_M} (C : ct_Cx p s mth c cX6_explore 7 args RX6 D cy) (hr : meth.sig.returnType = none) (hlk : meth.locks = false) (hK35 : ∀ (v0 : Nat) (v2 : Int32) (m : ct_M), ct_K 6 v0 → K35 v0 v2 m → ct_J p l e rm_X6_explore s mth args below meth c 7 D cy o ct_NN 0 0 (MQ below (va_Qv Q (ct_P D cy o ct_NN) (fun q => o ≤ q)) args s 0 0 (fun q => o ≤ q)) m 35 [(0, .ref (o + v0)), (2, .int v2)] []) (hK69 : ∀ (v0 : Nat) (v2 : Int32) (v3 : Int64) (v5 : Int32) (v6 : Int32) (m : ct_M), ct_K 6 v0 → K69 v0 v2 v3 v5 v6 m → ct_J p l e rm_X6_explore s mth args below meth c 7 D cy o ct_NN 0 0 (MQ below (va_Qv Q (ct_P D cy o ct_NN) (fun q => o ≤ q)) args s 0 0 (fun q => o ≤ q)) m 69 [(0, .ref (o + v0)), (2, .int v2), (3, .long v3), (5, .int v5), (6, .int v6)] []) (kv0 : ct_K 6 v0) (h : wb_X6_explore_113 K35 K69 Q v0 v2 v3 v5 v6 m) : ct_J p l e rm_X6_explore s mth args below meth c 7 D cy o ct_NN 0 0 (MQ below (va_Qv Q (ct_P D cy o ct_NN) (fun q => o ≤ q)) args s 0 0 (fun q => o ≤ q)) m 113 [(0, .ref (o + v0)), (2, .int v2), (3, .long v3), (5, .int v5), (6, .int v6)] [] := by
  unfold wb_X6_explore_113 at h
  obtain ⟨x1, ex1⟩ : ∃ z : Int32, z = v6 + (1 : Int32) := ⟨_, rfl⟩
  have h := h x1 ex1
  refine ct_iinc (k := 4) (v := x1) C dX6_explore_113 [(6, .int x1), (0, .ref (o + v0)), (2, .int v2), (3, .long v3), (5, .int v5)] rfl (by rw [ex1]; rfl) (by decide) rfl ?_
  refine ct_goto C dX6_explore_116 69 (by decide) ?_
  refine ct_sub [1, 2, 3, 4, 0] [(0, .ref (o + v0)), (2, .int v2), (3, .long v3), (5, .int v5), (6, .int x1)] rfl ?_
  exact hK69 _ _ _ _ _ _ kv0 h
set_option maxHeartbeats 4000000 in
set_option maxRecDepth 100000 in
theorem kb_X6_explore_69 {p : Program} {l : Launch} {e : Env} {s : State} {mth : MethodId} {args : Array Value} {below : List Frame} {meth : Method} {c : Code} {D : va_G} {cy : Nat → ClassId} {o : Nat} {Q : ct_M → Prop} {K35 : Nat → Int32 → ct_M → Prop} (C : ct_Cx p s mth c cX6_explore 7 args RX6 D cy) (hr : meth.sig.returnType = none) (hlk : meth.locks = false) (hK35 : ∀ (v0 : Nat) (v2 : Int32) (m : ct_M), ct_K 6 v0 → K35 v0 v2 m → ct_J p l e rm_X6_explore s mth args below meth c 7 D cy o ct_NN 0 0 (MQ below (va_Qv Q (ct_P D cy o ct_NN) (fun q => o ≤ q)) args s 0 0 (fun q => o ≤ q)) m 35 [(0, .ref (o + v0)), (2, .int v2)] []) : ∀ (n : Nat) (v0 : Nat) (v2 : Int32) (v3 : Int64) (v5 : Int32) (v6 : Int32) (m : ct_M) (kv0 : ct_K 6 v0), wb_X6_explore_69 K35 Q n v0 v2 v3 v5 v6 m → ct_J p l e rm_X6_explore s mth args below meth c 7 D cy o ct_NN 0 0 (MQ below (va_Qv Q (ct_P D cy o ct_NN) (fun q => o ≤ q)) args s 0 0 (fun q => o ≤ q)) m 69 [(0, .ref (o + v0)), (2, .int v2), (3, .long v3), (5, .int v5), (6, .int v6)] [] := by
  intro n
  induction n with
  | zero => intro v0 v2 v3 v5 v6 m kv0 h; exact h.elim
  | succ n ih =>
    intro v0 v2 v3 v5 v6 m kv0 h
    unfold wb_X6_explore_69 at h
    refine ct_iload C dX6_explore_69 4 rfl ?_
    refine ct_aload_n C dX6_explore_71 0 rfl rfl ?_
    refine gf_X6_26 C dX6_explore_72 kv0 ?_
    have hk1 := ct_t6_0 kv0
    refine gf_X6_53 C dX6_explore_75 hk1 ?_
    refine ct_icmp_ge C dX6_explore_78 119 (by decide) (fun hc2 => ?_) (fun hc2 => ?_)
    · have h := h.1 hc2
      refine ct_sub [0, 1, 2, 3] [(0, .ref (o + v0)), (2, .int v2), (3, .long v3), (5, .int v5)] rfl ?_
      exact kb_X6_explore_119 C hr hlk hK35 kv0 h
    · have h := h.2 hc2
      refine ct_iload C dX6_explore_81 4 rfl ?_
      refine ct_iconst C dX6_explore_83 (3 : Int32) (by decide) ?_
      refine ct_icmp_ge C dX6_explore_84 119 (by decide) (fun hc3 => ?_) (fun hc3 => ?_)
      · have h := h.1 hc3
        refine ct_sub [0, 1, 2, 3] [(0, .ref (o + v0)), (2, .int v2), (3, .long v3), (5, .int v5)] rfl ?_
        exact kb_X6_explore_119 C hr hlk hK35 kv0 h
      · have h := h.2 hc3
        refine ct_lload_n C dX6_explore_87 2 rfl rfl ?_
        refine ct_iload C dX6_explore_88 4 rfl ?_
        refine ct_callSi (As := [.long v3, .int v6]) C (c_X6_canRun l D cy o  h) kv_X6_56 rfl rfl (Nat.le_of_ble_eq_true rfl) ⟨rfl, rfl, Nat.le_of_ble_eq_true rfl, Nat.le_of_ble_eq_true rfl⟩ ⟨Nat.zero_le _, Nat.zero_le _⟩ dX6_explore_90 (fun r5 m4 h => ?_)
        refine ct_if_eq C dX6_explore_93 113 (by decide) (fun hc6 => ?_) (fun hc6 => ?_)
        · have h := h.1 hc6
          refine ct_sub [0, 1, 2, 3, 4] [(0, .ref (o + v0)), (2, .int v2), (3, .long v3), (5, .int v5), (6, .int v6)] rfl ?_
          exact kb_X6_explore_113 C hr hlk hK35 ih kv0 h
        · have h := h.2 hc6
          refine ct_aload_n C dX6_explore_96 0 rfl rfl ?_
          refine gf_X6_14 C dX6_explore_97 kv0 ?_
          have hk7 := ct_t6_1 kv0
          refine ct_aload_n C dX6_explore_100 0 rfl rfl ?_
          refine ct_lload_n C dX6_explore_101 2 rfl rfl ?_
          refine ct_iload C dX6_explore_102 4 rfl ?_
          refine ct_callVl (As := [.long v3, .int v6]) (T := TX6) C (c_X6_afterTransaction l D cy o kv0 h) kv_X6_60 kv0.1 (ct_E6 kv0) rfl rfl rfl (Nat.le_of_ble_eq_true rfl) ⟨rfl, rfl, Nat.le_of_ble_eq_true rfl, Nat.le_of_ble_eq_true rfl⟩ ⟨Nat.zero_le _, Nat.zero_le _⟩ dX6_explore_104 (fun r9 m8 h => ?_)
          refine ct_callVv (As := [.long r9]) (T := TX2) C (c_X2_add l D cy o hk7 h) kv_X6_41 hk7.1 (ct_E2 hk7) rfl rfl rfl (Nat.le_of_ble_eq_true rfl) ⟨rfl, rfl, Nat.le_of_ble_eq_true rfl, Nat.le_of_ble_eq_true rfl⟩ ⟨Nat.zero_le _, Nat.zero_le _⟩ dX6_explore_107 (fun m10 h => ?_)
          refine ct_iconst C dX6_explore_110 (0 : Int32) (by decide) ?_
          refine ct_istore C dX6_explore_111 [(5, .int (0 : Int32)), (0, .ref (o + v0)), (2, .int v2), (3, .long v3), (6, .int v6)] (by decide) rfl ?_
          refine ct_sub [1, 2, 3, 0, 4] [(0, .ref (o + v0)), (2, .int v2), (3, .long v3), (5, .int (0 : Int32)), (6, .int v6)] rfl ?_
          exact kb_X6_explore_113 C hr hlk hK35 ih kv0 h
set_option maxHeartbeats 4000000 in
set_option maxRecDepth 100000 in
theorem kb_X6_explore_35 {p : Program} {l : Launch} {e : Env} {s : State} {mth : MethodId} {args : Array Value} {below : List Frame} {meth : Method} {c : Code} {D : va_G} {cy : Nat → ClassId} {o : Nat} {Q : ct_M → Prop} (C : ct_Cx p s mth c cX6_explore 7 args RX6 D cy) (hr : meth.sig.returnType = none) (hlk : meth.locks = false) : ∀ (n : Nat) (v0 : Nat) (v2 : Int32) (m : ct_M) (kv0 : ct_K 6 v0), wb_X6_explore_35 Q n v0 v2 m → ct_J p l e rm_X6_explore s mth args below meth c 7 D cy o ct_NN 0 0 (MQ below (va_Qv Q (ct_P D cy o ct_NN) (fun q => o ≤ q)) args s 0 0 (fun q => o ≤ q)) m 35 [(0, .ref (o + v0)), (2, .int v2)] [] := by
  intro n
  induction n with
  | zero => intro v0 v2 m kv0 h; exact h.elim
  | succ n ih =>
    intro v0 v2 m kv0 h
    unfold wb_X6_explore_35 at h
    refine ct_iload_n C dX6_explore_35 1 rfl rfl ?_
    refine ct_aload_n C dX6_explore_36 0 rfl rfl ?_
    refine gf_X6_14 C dX6_explore_37 kv0 ?_
    have hk1 := ct_t6_1 kv0
    refine gf_X6_45 C dX6_explore_40 hk1 ?_
    refine ct_icmp_ge C dX6_explore_43 142 (by decide) (fun hc2 => ?_) (fun hc2 => ?_)
    · have h := h.1 hc2
      exact ct_vret C hr hlk dX6_explore_142 h
    · have h := h.2 hc2
      refine ct_iload_n C dX6_explore_46 1 rfl rfl ?_
      refine ct_sipush C dX6_explore_47 (1359 : Int32) (by decide) ?_
      refine ct_icmp_ge C dX6_explore_50 142 (by decide) (fun hc3 => ?_) (fun hc3 => ?_)
      · have h := h.1 hc3
        exact ct_vret C hr hlk dX6_explore_142 h
      · have h := h.2 hc3
        refine ct_aload_n C dX6_explore_53 0 rfl rfl ?_
        refine gf_X6_14 C dX6_explore_54 kv0 ?_
        refine gf_X6_49 C dX6_explore_57 hk1 ?_
        have hk4 := ct_t2_0 hk1
        refine ct_iload_n C dX6_explore_60 1 rfl rfl ?_
        refine ct_lald C dX6_explore_61 hk4 h.1 ?_
        have h := h.2
        refine ct_topl (fun x5 ex5 => ?_)
        have h := h x5 ex5
        refine ct_lstore_n C dX6_explore_62 [(3, .long x5), (0, .ref (o + v0)), (2, .int v2)] rfl (by decide) rfl ?_
        refine ct_iconst C dX6_explore_63 (1 : Int32) (by decide) ?_
        refine ct_istore C dX6_explore_64 [(5, .int (1 : Int32)), (3, .long x5), (0, .ref (o + v0)), (2, .int v2)] (by decide) rfl ?_
        refine ct_iconst C dX6_explore_66 (0 : Int32) (by decide) ?_
        refine ct_istore C dX6_explore_67 [(6, .int (0 : Int32)), (5, .int (1 : Int32)), (3, .long x5), (0, .ref (o + v0)), (2, .int v2)] (by decide) rfl ?_
        refine ct_sub [3, 4, 2, 1, 0] [(0, .ref (o + v0)), (2, .int v2), (3, .long x5), (5, .int (1 : Int32)), (6, .int (0 : Int32))] rfl ?_
        obtain ⟨n6, h⟩ := h
        exact kb_X6_explore_69 C hr hlk ih n6 _ _ _ _ _ _ kv0 h
set_option maxHeartbeats 4000000 in
set_option maxRecDepth 100000 in
theorem c_X6_explore (l : Launch) (D : va_G) (cy : Nat → ClassId) (o : Nat) {a0 : Nat} {a1 : Nat} {Q : ct_M → Prop} {m : ct_M} (ka0 : ct_K 6 a0) (ka1 : ct_K 10 a1) (h : wp_X6_explore a0 a1 Q m) : Met l yX6_explore (ct_ws yX6_explore cX6_explore 7 none) rm_X6_explore (va_Pc [.ref (o + a0), .ref (o + a1)] (ct_P D cy o ct_NN m)) (va_Qv Q (ct_P D cy o ct_NN) (fun q => o ≤ q)) 0 0 (fun q => o ≤ q) := by
  refine ct_met l D cy o ct_NN m (by decide) (Nat.le_of_ble_eq_true rfl) (fun p e s mth args below meth c C hr hlk => ?_)
  refine ct_sub [0, 1] [(0, .ref (o + a0)), (1, .ref (o + a1))] rfl ?_
  unfold wp_X6_explore at h
  refine ct_aload_n C dX6_explore_0 0 rfl rfl ?_
  refine gf_X6_14 C dX6_explore_1 ka0 ?_
  have hk1 := ct_t6_1 ka0
  refine ct_callVv (As := []) (T := TX2) C (c_X2_clear l D cy o hk1 h) kv_X6_30 hk1.1 (ct_E2 hk1) rfl rfl rfl (Nat.le_of_ble_eq_true rfl) ⟨rfl, rfl, Nat.le_of_ble_eq_true rfl, Nat.le_of_ble_eq_true rfl⟩ ⟨Nat.zero_le _, Nat.zero_le _⟩ dX6_explore_4 (fun m2 h => ?_)
  refine ct_aload_n C dX6_explore_7 0 rfl rfl ?_
  refine gf_X6_18 C dX6_explore_8 ka0 ?_
  have hk3 := ct_t6_2 ka0
  refine ct_callVv (As := []) (T := TX2) C (c_X2_clear l D cy o hk3 h) kv_X6_30 hk3.1 (ct_E2 hk3) rfl rfl rfl (Nat.le_of_ble_eq_true rfl) ⟨rfl, rfl, Nat.le_of_ble_eq_true rfl, Nat.le_of_ble_eq_true rfl⟩ ⟨Nat.zero_le _, Nat.zero_le _⟩ dX6_explore_11 (fun m4 h => ?_)
  refine ct_aload_n C dX6_explore_14 0 rfl rfl ?_
  refine gf_X6_26 C dX6_explore_15 ka0 ?_
  have hk5 := ct_t6_0 ka0
  refine ct_aload_n C dX6_explore_18 1 rfl rfl ?_
  refine ct_callVv (As := [.ref (o + a1)]) (T := TX10) C (c_X10_copyFrom l D cy o hk5 ka1 h) kv_X6_33 hk5.1 (ct_E10 hk5) rfl rfl rfl (Nat.le_of_ble_eq_true rfl) ⟨rfl, rfl, Nat.le_of_ble_eq_true rfl, Nat.le_of_ble_eq_true rfl⟩ ⟨Nat.zero_le _, Nat.zero_le _⟩ dX6_explore_19 (fun m6 h => ?_)
  refine ct_aload_n C dX6_explore_22 0 rfl rfl ?_
  refine gf_X6_14 C dX6_explore_23 ka0 ?_
  refine ct_aload_n C dX6_explore_26 0 rfl rfl ?_
  refine ct_callVl (As := []) (T := TX6) C (c_X6_firstPoint l D cy o ka0 h) kv_X6_37 ka0.1 (ct_E6 ka0) rfl rfl rfl (Nat.le_of_ble_eq_true rfl) ⟨rfl, rfl, Nat.le_of_ble_eq_true rfl, Nat.le_of_ble_eq_true rfl⟩ ⟨Nat.zero_le _, Nat.zero_le _⟩ dX6_explore_27 (fun r8 m7 h => ?_)
  refine ct_callVv (As := [.long r8]) (T := TX2) C (c_X2_add l D cy o hk1 h) kv_X6_41 hk1.1 (ct_E2 hk1) rfl rfl rfl (Nat.le_of_ble_eq_true rfl) ⟨rfl, rfl, Nat.le_of_ble_eq_true rfl, Nat.le_of_ble_eq_true rfl⟩ ⟨Nat.zero_le _, Nat.zero_le _⟩ dX6_explore_30 (fun m9 h => ?_)
  refine ct_iconst C dX6_explore_33 (0 : Int32) (by decide) ?_
  refine ct_istore_n C dX6_explore_34 [(2, .int (0 : Int32)), (0, .ref (o + a0)), (1, .ref (o + a1))] rfl (by decide) rfl ?_
  refine ct_sub [1, 0] [(0, .ref (o + a0)), (2, .int (0 : Int32))] rfl ?_
  obtain ⟨n10, h⟩ := h
  exact kb_X6_explore_35 C hr hlk  n10 _ _ _ ka0 h
abbrev rm_X11_outcomeCount : Room := { frames := 7, cells := 0, slots := 0, locals := 164 }
set_option maxHeartbeats 4000000 in
set_option maxRecDepth 100000 in
theorem c_X11_outcomeCount (l : Launch) (D : va_G) (cy : Nat → ClassId) (o : Nat) {a0 : Nat} {Q : Int32 → ct_M → Prop} {m : ct_M} (ka0 : ct_K 11 a0) (h : wp_X11_outcomeCount a0 Q m) : Met l yX11_outcomeCount (ct_ws yX11_outcomeCount cX11_outcomeCount 1 (some .int)) rm_X11_outcomeCount (va_Pc [.ref (o + a0)] (ct_P D cy o ct_NN m)) (va_Qi Q (ct_P D cy o ct_NN) (fun q => o ≤ q)) 0 0 (fun q => o ≤ q) := by
  refine ct_met l D cy o ct_NN m (by decide) (Nat.le_of_ble_eq_true rfl) (fun p e s mth args below meth c C hr hlk => ?_)
  refine ct_sub [0] [(0, .ref (o + a0))] rfl ?_
  unfold wp_X11_outcomeCount at h
  refine ct_aload_n C dX11_outcomeCount_0 0 rfl rfl ?_
  refine gf_X11_60 C dX11_outcomeCount_1 ka0 ?_
  have hk1 := ct_t11_8 ka0
  refine ct_aload_n C dX11_outcomeCount_4 0 rfl rfl ?_
  refine gf_X11_43 C dX11_outcomeCount_5 ka0 ?_
  have hk2 := ct_t11_2 ka0
  refine ct_callVv (As := [.ref (o + (a0 + 26))]) (T := TX6) C (c_X6_explore l D cy o hk1 hk2 h) kv_X11_176 hk1.1 (ct_E6 hk1) rfl rfl rfl (Nat.le_of_ble_eq_true rfl) ⟨rfl, rfl, Nat.le_of_ble_eq_true rfl, Nat.le_of_ble_eq_true rfl⟩ ⟨Nat.zero_le _, Nat.zero_le _⟩ dX11_outcomeCount_8 (fun m3 h => ?_)
  refine ct_aload_n C dX11_outcomeCount_11 0 rfl rfl ?_
  refine gf_X11_60 C dX11_outcomeCount_12 ka0 ?_
  refine gf_X11_179 C dX11_outcomeCount_15 hk1 ?_
  have hk4 := ct_t6_2 hk1
  refine gf_X11_183 C dX11_outcomeCount_18 hk4 ?_
  exact ct_ireti C hr hlk dX11_outcomeCount_21 h
abbrev rm_X3_allow : Room := { frames := 1, cells := 0, slots := 0, locals := 22 }
set_option maxHeartbeats 4000000 in
set_option maxRecDepth 100000 in
theorem kb_X3_allow_2 {p : Program} {l : Launch} {e : Env} {s : State} {mth : MethodId} {args : Array Value} {below : List Frame} {meth : Method} {c : Code} {D : va_G} {cy : Nat → ClassId} {o : Nat} {Q : Int32 → ct_M → Prop} (C : ct_Cx p s mth c cX3_allow 4 args RX3 D cy) (hr : meth.sig.returnType = (some .boolean)) (hlk : meth.locks = false) : ∀ (n : Nat) (v0 : Nat) (v1 : Int64) (v3 : Int32) (m : ct_M) (kv0 : ct_K 3 v0), wb_X3_allow_2 Q n v0 v1 v3 m → ct_J p l e rm_X3_allow s mth args below meth c 4 D cy o ct_NN 0 0 (MQ below (va_Qi Q (ct_P D cy o ct_NN) (fun q => o ≤ q)) args s 0 0 (fun q => o ≤ q)) m 2 [(0, .ref (o + v0)), (1, .long v1), (3, .int v3)] [] := by
  intro n
  induction n with
  | zero => intro v0 v1 v3 m kv0 h; exact h.elim
  | succ n ih =>
    intro v0 v1 v3 m kv0 h
    unfold wb_X3_allow_2 at h
    refine ct_iload_n C dX3_allow_2 2 rfl rfl ?_
    refine ct_aload_n C dX3_allow_3 0 rfl rfl ?_
    refine gf_X3_22 C dX3_allow_4 kv0 ?_
    refine ct_icmp_ge C dX3_allow_7 42 (by decide) (fun hc1 => ?_) (fun hc1 => ?_)
    · have h := h.1 hc1
      refine ct_iconst C dX3_allow_42 (1 : Int32) (by decide) ?_
      exact ct_zret C hr hlk dX3_allow_43 (by decide) h
    · have h := h.2 hc1
      refine ct_iload_n C dX3_allow_10 2 rfl rfl ?_
      refine ct_iconst C dX3_allow_11 (4 : Int32) (by decide) ?_
      refine ct_icmp_ge C dX3_allow_12 42 (by decide) (fun hc2 => ?_) (fun hc2 => ?_)
      · have h := h.1 hc2
        refine ct_iconst C dX3_allow_42 (1 : Int32) (by decide) ?_
        exact ct_zret C hr hlk dX3_allow_43 (by decide) h
      · have h := h.2 hc2
        refine ct_lload_n C dX3_allow_15 1 rfl rfl ?_
        refine ct_aload_n C dX3_allow_16 0 rfl rfl ?_
        refine gf_X3_9 C dX3_allow_17 kv0 ?_
        have hk3 := ct_t3_0 kv0
        refine ct_iload_n C dX3_allow_20 2 rfl rfl ?_
        refine ct_iald C dX3_allow_21 hk3 h.1 ?_
        have h := h.2
        refine ct_callSi (As := [.long v1, .int (m.1 (v0 + 1) v3.toNatClampNeg)]) C (c_X6_cellValue l D cy o  h) kv_X3_31 rfl rfl (Nat.le_of_ble_eq_true rfl) ⟨rfl, rfl, Nat.le_of_ble_eq_true rfl, Nat.le_of_ble_eq_true rfl⟩ ⟨Nat.zero_le _, Nat.zero_le _⟩ dX3_allow_22 (fun r5 m4 h => ?_)
        refine ct_aload_n C dX3_allow_25 0 rfl rfl ?_
        refine gf_X3_15 C dX3_allow_26 kv0 ?_
        have hk6 := ct_t3_1 kv0
        refine ct_iload_n C dX3_allow_29 2 rfl rfl ?_
        refine ct_iald C dX3_allow_30 hk6 h.1 ?_
        have h := h.2
        refine ct_icmp_eq C dX3_allow_31 36 (by decide) (fun hc7 => ?_) (fun hc7 => ?_)
        · have h := h.1 hc7
          obtain ⟨x8, ex8⟩ : ∃ z : Int32, z = v3 + (1 : Int32) := ⟨_, rfl⟩
          have h := h x8 ex8
          refine ct_iinc (k := 2) (v := x8) C dX3_allow_36 [(3, .int x8), (0, .ref (o + v0)), (1, .long v1)] rfl (by rw [ex8]; rfl) (by decide) rfl ?_
          refine ct_goto C dX3_allow_39 2 (by decide) ?_
          refine ct_sub [1, 2, 0] [(0, .ref (o + v0)), (1, .long v1), (3, .int x8)] rfl ?_
          exact ih _ _ _ _ kv0 h
        · have h := h.2 hc7
          refine ct_iconst C dX3_allow_34 (0 : Int32) (by decide) ?_
          exact ct_zret C hr hlk dX3_allow_35 (by decide) h
set_option maxHeartbeats 4000000 in
set_option maxRecDepth 100000 in
theorem c_X3_allow (l : Launch) (D : va_G) (cy : Nat → ClassId) (o : Nat) {a0 : Nat} {p1 : Int64} {Q : Int32 → ct_M → Prop} {m : ct_M} (ka0 : ct_K 3 a0) (h : wp_X3_allow a0 p1 Q m) : Met l yX3_allow (ct_ws yX3_allow cX3_allow 4 (some .boolean)) rm_X3_allow (va_Pc [.ref (o + a0), .long p1] (ct_P D cy o ct_NN m)) (va_Qi Q (ct_P D cy o ct_NN) (fun q => o ≤ q)) 0 0 (fun q => o ≤ q) := by
  refine ct_met l D cy o ct_NN m (by decide) (Nat.le_of_ble_eq_true rfl) (fun p e s mth args below meth c C hr hlk => ?_)
  refine ct_sub [0, 1] [(0, .ref (o + a0)), (1, .long p1)] rfl ?_
  unfold wp_X3_allow at h
  refine ct_iconst C dX3_allow_0 (0 : Int32) (by decide) ?_
  refine ct_istore_n C dX3_allow_1 [(3, .int (0 : Int32)), (0, .ref (o + a0)), (1, .long p1)] rfl (by decide) rfl ?_
  refine ct_sub [1, 2, 0] [(0, .ref (o + a0)), (1, .long p1), (3, .int (0 : Int32))] rfl ?_
  obtain ⟨n1, h⟩ := h
  exact kb_X3_allow_2 C hr hlk  n1 _ _ _ _ ka0 h
abbrev rm_X11_possibleOutcomes : Room := { frames := 7, cells := 0, slots := 0, locals := 164 }
set_option maxHeartbeats 4000000 in
set_option maxRecDepth 100000 in
theorem kb_X11_possibleOutcomes_61 {p : Program} {l : Launch} {e : Env} {s : State} {mth : MethodId} {args : Array Value} {below : List Frame} {meth : Method} {c : Code} {D : va_G} {cy : Nat → ClassId} {o : Nat} {Q : Int32 → ct_M → Prop} {K15 : Nat → Int32 → Int32 → ct_M → Prop} {v0 : Nat} {v1 : Int32} {v2 : Int32} {m : ct_M} (C : ct_Cx p s mth c cX11_possibleOutcomes 3 args RX11 D cy) (hr : meth.sig.returnType = (some .int)) (hlk : meth.locks = false) (hK15 : ∀ (v0 : Nat) (v1 : Int32) (v2 : Int32) (m : ct_M), ct_K 11 v0 → K15 v0 v1 v2 m → ct_J p l e rm_X11_possibleOutcomes s mth args below meth c 3 D cy o ct_NN 0 0 (MQ below (va_Qi Q (ct_P D cy o ct_NN) (fun q => o ≤ q)) args s 0 0 (fun q => o ≤ q)) m 15 [(0, .ref (o + v0)), (1, .int v1), (2, .int v2)] []) (kv0 : ct_K 11 v0) (h : wb_X11_possibleOutcomes_61 K15 Q v0 v1 v2 m) : ct_J p l e rm_X11_possibleOutcomes s mth args below meth c 3 D cy o ct_NN 0 0 (MQ below (va_Qi Q (ct_P D cy o ct_NN) (fun q => o ≤ q)) args s 0 0 (fun q => o ≤ q)) m 61 [(0, .ref (o + v0)), (1, .int v1), (2, .int v2)] [] := by
  unfold wb_X11_possibleOutcomes_61 at h
  obtain ⟨x1, ex1⟩ : ∃ z : Int32, z = v2 + (1 : Int32) := ⟨_, rfl⟩
  have h := h x1 ex1
  refine ct_iinc (k := 2) (v := x1) C dX11_possibleOutcomes_61 [(2, .int x1), (0, .ref (o + v0)), (1, .int v1)] rfl (by rw [ex1]; rfl) (by decide) rfl ?_
  refine ct_goto C dX11_possibleOutcomes_64 15 (by decide) ?_
  refine ct_sub [1, 2, 0] [(0, .ref (o + v0)), (1, .int v1), (2, .int x1)] rfl ?_
  exact hK15 _ _ _ _ kv0 h
set_option maxHeartbeats 4000000 in
set_option maxRecDepth 100000 in
theorem kb_X11_possibleOutcomes_15 {p : Program} {l : Launch} {e : Env} {s : State} {mth : MethodId} {args : Array Value} {below : List Frame} {meth : Method} {c : Code} {D : va_G} {cy : Nat → ClassId} {o : Nat} {Q : Int32 → ct_M → Prop} (C : ct_Cx p s mth c cX11_possibleOutcomes 3 args RX11 D cy) (hr : meth.sig.returnType = (some .int)) (hlk : meth.locks = false) : ∀ (n : Nat) (v0 : Nat) (v1 : Int32) (v2 : Int32) (m : ct_M) (kv0 : ct_K 11 v0), wb_X11_possibleOutcomes_15 Q n v0 v1 v2 m → ct_J p l e rm_X11_possibleOutcomes s mth args below meth c 3 D cy o ct_NN 0 0 (MQ below (va_Qi Q (ct_P D cy o ct_NN) (fun q => o ≤ q)) args s 0 0 (fun q => o ≤ q)) m 15 [(0, .ref (o + v0)), (1, .int v1), (2, .int v2)] [] := by
  intro n
  induction n with
  | zero => intro v0 v1 v2 m kv0 h; exact h.elim
  | succ n ih =>
    intro v0 v1 v2 m kv0 h
    unfold wb_X11_possibleOutcomes_15 at h
    refine ct_iload_n C dX11_possibleOutcomes_15 2 rfl rfl ?_
    refine ct_aload_n C dX11_possibleOutcomes_16 0 rfl rfl ?_
    refine gf_X11_60 C dX11_possibleOutcomes_17 kv0 ?_
    have hk1 := ct_t11_8 kv0
    refine gf_X11_179 C dX11_possibleOutcomes_20 hk1 ?_
    have hk2 := ct_t6_2 hk1
    refine gf_X11_183 C dX11_possibleOutcomes_23 hk2 ?_
    refine ct_icmp_ge C dX11_possibleOutcomes_26 67 (by decide) (fun hc3 => ?_) (fun hc3 => ?_)
    · have h := h.1 hc3
      refine ct_iload_n C dX11_possibleOutcomes_67 1 rfl rfl ?_
      exact ct_ireti C hr hlk dX11_possibleOutcomes_68 h
    · have h := h.2 hc3
      refine ct_iload_n C dX11_possibleOutcomes_29 2 rfl rfl ?_
      refine ct_sipush C dX11_possibleOutcomes_30 (1359 : Int32) (by decide) ?_
      refine ct_icmp_ge C dX11_possibleOutcomes_33 67 (by decide) (fun hc4 => ?_) (fun hc4 => ?_)
      · have h := h.1 hc4
        refine ct_iload_n C dX11_possibleOutcomes_67 1 rfl rfl ?_
        exact ct_ireti C hr hlk dX11_possibleOutcomes_68 h
      · have h := h.2 hc4
        refine ct_aload_n C dX11_possibleOutcomes_36 0 rfl rfl ?_
        refine gf_X11_35 C dX11_possibleOutcomes_37 kv0 ?_
        have hk5 := ct_t11_7 kv0
        refine ct_aload_n C dX11_possibleOutcomes_40 0 rfl rfl ?_
        refine gf_X11_60 C dX11_possibleOutcomes_41 kv0 ?_
        refine gf_X11_179 C dX11_possibleOutcomes_44 hk1 ?_
        refine gf_X11_188 C dX11_possibleOutcomes_47 hk2 ?_
        have hk6 := ct_t2_0 hk2
        refine ct_iload_n C dX11_possibleOutcomes_50 2 rfl rfl ?_
        refine ct_lald C dX11_possibleOutcomes_51 hk6 h.1 ?_
        have h := h.2
        refine ct_callVi (As := [.long (m.2 (((v0 + 964) + 4) + 1) v2.toNatClampNeg)]) (T := TX3) C (c_X3_allow l D cy o hk5 h) kv_X11_192 hk5.1 (ct_E3 hk5) rfl rfl rfl (Nat.le_of_ble_eq_true rfl) ⟨rfl, rfl, Nat.le_of_ble_eq_true rfl, Nat.le_of_ble_eq_true rfl⟩ ⟨Nat.zero_le _, Nat.zero_le _⟩ dX11_possibleOutcomes_52 (fun r8 m7 h => ?_)
        refine ct_if_eq C dX11_possibleOutcomes_55 61 (by decide) (fun hc9 => ?_) (fun hc9 => ?_)
        · have h := h.1 hc9
          refine ct_sub [0, 1, 2] [(0, .ref (o + v0)), (1, .int v1), (2, .int v2)] rfl ?_
          exact kb_X11_possibleOutcomes_61 C hr hlk ih kv0 h
        · have h := h.2 hc9
          obtain ⟨x10, ex10⟩ : ∃ z : Int32, z = v1 + (1 : Int32) := ⟨_, rfl⟩
          have h := h x10 ex10
          refine ct_iinc (k := 1) (v := x10) C dX11_possibleOutcomes_58 [(1, .int x10), (0, .ref (o + v0)), (2, .int v2)] rfl (by rw [ex10]; rfl) (by decide) rfl ?_
          refine ct_sub [1, 0, 2] [(0, .ref (o + v0)), (1, .int x10), (2, .int v2)] rfl ?_
          exact kb_X11_possibleOutcomes_61 C hr hlk ih kv0 h
set_option maxHeartbeats 4000000 in
set_option maxRecDepth 100000 in
theorem c_X11_possibleOutcomes (l : Launch) (D : va_G) (cy : Nat → ClassId) (o : Nat) {a0 : Nat} {Q : Int32 → ct_M → Prop} {m : ct_M} (ka0 : ct_K 11 a0) (h : wp_X11_possibleOutcomes a0 Q m) : Met l yX11_possibleOutcomes (ct_ws yX11_possibleOutcomes cX11_possibleOutcomes 3 (some .int)) rm_X11_possibleOutcomes (va_Pc [.ref (o + a0)] (ct_P D cy o ct_NN m)) (va_Qi Q (ct_P D cy o ct_NN) (fun q => o ≤ q)) 0 0 (fun q => o ≤ q) := by
  refine ct_met l D cy o ct_NN m (by decide) (Nat.le_of_ble_eq_true rfl) (fun p e s mth args below meth c C hr hlk => ?_)
  refine ct_sub [0] [(0, .ref (o + a0))] rfl ?_
  unfold wp_X11_possibleOutcomes at h
  refine ct_aload_n C dX11_possibleOutcomes_0 0 rfl rfl ?_
  refine gf_X11_60 C dX11_possibleOutcomes_1 ka0 ?_
  have hk1 := ct_t11_8 ka0
  refine ct_aload_n C dX11_possibleOutcomes_4 0 rfl rfl ?_
  refine gf_X11_43 C dX11_possibleOutcomes_5 ka0 ?_
  have hk2 := ct_t11_2 ka0
  refine ct_callVv (As := [.ref (o + (a0 + 26))]) (T := TX6) C (c_X6_explore l D cy o hk1 hk2 h) kv_X11_176 hk1.1 (ct_E6 hk1) rfl rfl rfl (Nat.le_of_ble_eq_true rfl) ⟨rfl, rfl, Nat.le_of_ble_eq_true rfl, Nat.le_of_ble_eq_true rfl⟩ ⟨Nat.zero_le _, Nat.zero_le _⟩ dX11_possibleOutcomes_8 (fun m3 h => ?_)
  refine ct_iconst C dX11_possibleOutcomes_11 (0 : Int32) (by decide) ?_
  refine ct_istore_n C dX11_possibleOutcomes_12 [(1, .int (0 : Int32)), (0, .ref (o + a0))] rfl (by decide) rfl ?_
  refine ct_iconst C dX11_possibleOutcomes_13 (0 : Int32) (by decide) ?_
  refine ct_istore_n C dX11_possibleOutcomes_14 [(2, .int (0 : Int32)), (1, .int (0 : Int32)), (0, .ref (o + a0))] rfl (by decide) rfl ?_
  refine ct_sub [2, 1, 0] [(0, .ref (o + a0)), (1, .int (0 : Int32)), (2, .int (0 : Int32))] rfl ?_
  obtain ⟨n4, h⟩ := h
  exact kb_X11_possibleOutcomes_15 C hr hlk  n4 _ _ _ _ ka0 h
abbrev rm_X11_canDeadlock : Room := { frames := 7, cells := 0, slots := 0, locals := 164 }
set_option maxHeartbeats 4000000 in
set_option maxRecDepth 100000 in
theorem kb_X11_canDeadlock_13 {p : Program} {l : Launch} {e : Env} {s : State} {mth : MethodId} {args : Array Value} {below : List Frame} {meth : Method} {c : Code} {D : va_G} {cy : Nat → ClassId} {o : Nat} {Q : Int32 → ct_M → Prop} (C : ct_Cx p s mth c cX11_canDeadlock 2 args RX11 D cy) (hr : meth.sig.returnType = (some .int)) (hlk : meth.locks = false) : ∀ (n : Nat) (v0 : Nat) (v1 : Int32) (m : ct_M) (kv0 : ct_K 11 v0), wb_X11_canDeadlock_13 Q n v0 v1 m → ct_J p l e rm_X11_canDeadlock s mth args below meth c 2 D cy o ct_NN 0 0 (MQ below (va_Qi Q (ct_P D cy o ct_NN) (fun q => o ≤ q)) args s 0 0 (fun q => o ≤ q)) m 13 [(0, .ref (o + v0)), (1, .int v1)] [] := by
  intro n
  induction n with
  | zero => intro v0 v1 m kv0 h; exact h.elim
  | succ n ih =>
    intro v0 v1 m kv0 h
    unfold wb_X11_canDeadlock_13 at h
    refine ct_iload_n C dX11_canDeadlock_13 1 rfl rfl ?_
    refine ct_aload_n C dX11_canDeadlock_14 0 rfl rfl ?_
    refine gf_X11_60 C dX11_canDeadlock_15 kv0 ?_
    have hk1 := ct_t11_8 kv0
    refine gf_X11_179 C dX11_canDeadlock_18 hk1 ?_
    have hk2 := ct_t6_2 hk1
    refine gf_X11_183 C dX11_canDeadlock_21 hk2 ?_
    refine ct_icmp_ge C dX11_canDeadlock_24 63 (by decide) (fun hc3 => ?_) (fun hc3 => ?_)
    · have h := h.1 hc3
      refine ct_iconst C dX11_canDeadlock_63 (0 : Int32) (by decide) ?_
      exact ct_ireti C hr hlk dX11_canDeadlock_64 h
    · have h := h.2 hc3
      refine ct_iload_n C dX11_canDeadlock_27 1 rfl rfl ?_
      refine ct_sipush C dX11_canDeadlock_28 (1359 : Int32) (by decide) ?_
      refine ct_icmp_ge C dX11_canDeadlock_31 63 (by decide) (fun hc4 => ?_) (fun hc4 => ?_)
      · have h := h.1 hc4
        refine ct_iconst C dX11_canDeadlock_63 (0 : Int32) (by decide) ?_
        exact ct_ireti C hr hlk dX11_canDeadlock_64 h
      · have h := h.2 hc4
        refine ct_aload_n C dX11_canDeadlock_34 0 rfl rfl ?_
        refine gf_X11_60 C dX11_canDeadlock_35 kv0 ?_
        refine gf_X11_179 C dX11_canDeadlock_38 hk1 ?_
        refine gf_X11_188 C dX11_canDeadlock_41 hk2 ?_
        have hk5 := ct_t2_0 hk2
        refine ct_iload_n C dX11_canDeadlock_44 1 rfl rfl ?_
        refine ct_lald C dX11_canDeadlock_45 hk5 h.1 ?_
        have h := h.2
        refine ct_ldc2 C dX11_canDeadlock_46 mw_407 ?_
        refine ct_land C dX11_canDeadlock_49 ?_
        refine ct_lconst C dX11_canDeadlock_50 (0 : Int64) (by decide) ?_
        refine ct_lcmp C dX11_canDeadlock_51 ?_
        refine ct_if_eq C dX11_canDeadlock_52 57 (by decide) (fun hc6 => ?_) (fun hc6 => ?_)
        · have h := h.1 hc6
          obtain ⟨x7, ex7⟩ : ∃ z : Int32, z = v1 + (1 : Int32) := ⟨_, rfl⟩
          have h := h x7 ex7
          refine ct_iinc (k := 1) (v := x7) C dX11_canDeadlock_57 [(1, .int x7), (0, .ref (o + v0))] rfl (by rw [ex7]; rfl) (by decide) rfl ?_
          refine ct_goto C dX11_canDeadlock_60 13 (by decide) ?_
          refine ct_sub [1, 0] [(0, .ref (o + v0)), (1, .int x7)] rfl ?_
          exact ih _ _ _ kv0 h
        · have h := h.2 hc6
          refine ct_iconst C dX11_canDeadlock_55 (1 : Int32) (by decide) ?_
          exact ct_ireti C hr hlk dX11_canDeadlock_56 h
set_option maxHeartbeats 4000000 in
set_option maxRecDepth 100000 in
theorem c_X11_canDeadlock (l : Launch) (D : va_G) (cy : Nat → ClassId) (o : Nat) {a0 : Nat} {Q : Int32 → ct_M → Prop} {m : ct_M} (ka0 : ct_K 11 a0) (h : wp_X11_canDeadlock a0 Q m) : Met l yX11_canDeadlock (ct_ws yX11_canDeadlock cX11_canDeadlock 2 (some .int)) rm_X11_canDeadlock (va_Pc [.ref (o + a0)] (ct_P D cy o ct_NN m)) (va_Qi Q (ct_P D cy o ct_NN) (fun q => o ≤ q)) 0 0 (fun q => o ≤ q) := by
  refine ct_met l D cy o ct_NN m (by decide) (Nat.le_of_ble_eq_true rfl) (fun p e s mth args below meth c C hr hlk => ?_)
  refine ct_sub [0] [(0, .ref (o + a0))] rfl ?_
  unfold wp_X11_canDeadlock at h
  refine ct_aload_n C dX11_canDeadlock_0 0 rfl rfl ?_
  refine gf_X11_60 C dX11_canDeadlock_1 ka0 ?_
  have hk1 := ct_t11_8 ka0
  refine ct_aload_n C dX11_canDeadlock_4 0 rfl rfl ?_
  refine gf_X11_43 C dX11_canDeadlock_5 ka0 ?_
  have hk2 := ct_t11_2 ka0
  refine ct_callVv (As := [.ref (o + (a0 + 26))]) (T := TX6) C (c_X6_explore l D cy o hk1 hk2 h) kv_X11_176 hk1.1 (ct_E6 hk1) rfl rfl rfl (Nat.le_of_ble_eq_true rfl) ⟨rfl, rfl, Nat.le_of_ble_eq_true rfl, Nat.le_of_ble_eq_true rfl⟩ ⟨Nat.zero_le _, Nat.zero_le _⟩ dX11_canDeadlock_8 (fun m3 h => ?_)
  refine ct_iconst C dX11_canDeadlock_11 (0 : Int32) (by decide) ?_
  refine ct_istore_n C dX11_canDeadlock_12 [(1, .int (0 : Int32)), (0, .ref (o + a0))] rfl (by decide) rfl ?_
  refine ct_sub [1, 0] [(0, .ref (o + a0)), (1, .int (0 : Int32))] rfl ?_
  obtain ⟨n4, h⟩ := h
  exact kb_X11_canDeadlock_13 C hr hlk  n4 _ _ _ ka0 h
abbrev rm_X11_greatestOutcome : Room := { frames := 7, cells := 0, slots := 0, locals := 164 }
set_option maxHeartbeats 4000000 in
set_option maxRecDepth 100000 in
theorem kb_X11_greatestOutcome_73 {p : Program} {l : Launch} {e : Env} {s : State} {mth : MethodId} {args : Array Value} {below : List Frame} {meth : Method} {c : Code} {D : va_G} {cy : Nat → ClassId} {o : Nat} {Q : Int32 → ct_M → Prop} {v2 : Int32} {m : ct_M} (C : ct_Cx p s mth c cX11_greatestOutcome 4 args RX11 D cy) (hr : meth.sig.returnType = (some .int)) (hlk : meth.locks = false) (h : wb_X11_greatestOutcome_73 Q v2 m) : ct_J p l e rm_X11_greatestOutcome s mth args below meth c 4 D cy o ct_NN 0 0 (MQ below (va_Qi Q (ct_P D cy o ct_NN) (fun q => o ≤ q)) args s 0 0 (fun q => o ≤ q)) m 73 [(2, .int v2)] [] := by
  unfold wb_X11_greatestOutcome_73 at h
  refine ct_iload_n C dX11_greatestOutcome_73 0 rfl rfl ?_
  refine ct_bipush C dX11_greatestOutcome_74 (100 : Int32) (by decide) ?_
  refine ct_iadd C dX11_greatestOutcome_76 ?_
  exact ct_ireti C hr hlk dX11_greatestOutcome_77 h
set_option maxHeartbeats 4000000 in
set_option maxRecDepth 100000 in
theorem kb_X11_greatestOutcome_25 {p : Program} {l : Launch} {e : Env} {s : State} {mth : MethodId} {args : Array Value} {below : List Frame} {meth : Method} {c : Code} {D : va_G} {cy : Nat → ClassId} {o : Nat} {Q : Int32 → ct_M → Prop} (C : ct_Cx p s mth c cX11_greatestOutcome 4 args RX11 D cy) (hr : meth.sig.returnType = (some .int)) (hlk : meth.locks = false) : ∀ (n : Nat) (v0 : Nat) (v1 : Int32) (v2 : Int32) (v3 : Int32) (m : ct_M) (kv0 : ct_K 11 v0), wb_X11_greatestOutcome_25 Q n v0 v1 v2 v3 m → ct_J p l e rm_X11_greatestOutcome s mth args below meth c 4 D cy o ct_NN 0 0 (MQ below (va_Qi Q (ct_P D cy o ct_NN) (fun q => o ≤ q)) args s 0 0 (fun q => o ≤ q)) m 25 [(0, .ref (o + v0)), (1, .int v1), (2, .int v2), (3, .int v3)] [] := by
  intro n
  induction n with
  | zero => intro v0 v1 v2 v3 m kv0 h; exact h.elim
  | succ n ih =>
    intro v0 v1 v2 v3 m kv0 h
    unfold wb_X11_greatestOutcome_25 at h
    refine ct_iload_n C dX11_greatestOutcome_25 3 rfl rfl ?_
    refine ct_aload_n C dX11_greatestOutcome_26 0 rfl rfl ?_
    refine gf_X11_60 C dX11_greatestOutcome_27 kv0 ?_
    have hk1 := ct_t11_8 kv0
    refine gf_X11_179 C dX11_greatestOutcome_30 hk1 ?_
    have hk2 := ct_t6_2 hk1
    refine gf_X11_183 C dX11_greatestOutcome_33 hk2 ?_
    refine ct_icmp_ge C dX11_greatestOutcome_36 73 (by decide) (fun hc3 => ?_) (fun hc3 => ?_)
    · have h := h.1 hc3
      refine ct_sub [2] [(2, .int v2)] rfl ?_
      exact kb_X11_greatestOutcome_73 C hr hlk   h
    · have h := h.2 hc3
      refine ct_iload_n C dX11_greatestOutcome_39 3 rfl rfl ?_
      refine ct_sipush C dX11_greatestOutcome_40 (1359 : Int32) (by decide) ?_
      refine ct_icmp_ge C dX11_greatestOutcome_43 73 (by decide) (fun hc4 => ?_) (fun hc4 => ?_)
      · have h := h.1 hc4
        refine ct_sub [2] [(2, .int v2)] rfl ?_
        exact kb_X11_greatestOutcome_73 C hr hlk   h
      · have h := h.2 hc4
        refine ct_iload_n C dX11_greatestOutcome_46 2 rfl rfl ?_
        refine ct_aload_n C dX11_greatestOutcome_47 0 rfl rfl ?_
        refine gf_X11_60 C dX11_greatestOutcome_48 kv0 ?_
        refine gf_X11_179 C dX11_greatestOutcome_51 hk1 ?_
        refine gf_X11_188 C dX11_greatestOutcome_54 hk2 ?_
        have hk5 := ct_t2_0 hk2
        refine ct_iload_n C dX11_greatestOutcome_57 3 rfl rfl ?_
        refine ct_lald C dX11_greatestOutcome_58 hk5 h.1 ?_
        have h := h.2
        refine ct_iload_n C dX11_greatestOutcome_59 1 rfl rfl ?_
        refine ct_callSi (As := [.long (m.2 (((v0 + 964) + 4) + 1) v3.toNatClampNeg), .int v1]) C (c_X6_cellValue l D cy o  h) kv_X11_198 rfl rfl (Nat.le_of_ble_eq_true rfl) ⟨rfl, rfl, Nat.le_of_ble_eq_true rfl, Nat.le_of_ble_eq_true rfl⟩ ⟨Nat.zero_le _, Nat.zero_le _⟩ dX11_greatestOutcome_60 (fun r7 m6 h => ?_)
        refine ct_mmax C mw_211 mw_212 mw_196 mw_213 (Nat.le_of_ble_eq_true rfl) (Nat.le_of_ble_eq_true rfl) ⟨Nat.zero_le _, Nat.zero_le _⟩ dX11_greatestOutcome_63 ?_
        refine ct_topi (fun x8 ex8 => ?_)
        have h := h x8 ex8
        refine ct_istore_n C dX11_greatestOutcome_66 [(2, .int x8), (0, .ref (o + v0)), (1, .int v1), (3, .int v3)] rfl (by decide) rfl ?_
        obtain ⟨x9, ex9⟩ : ∃ z : Int32, z = v3 + (1 : Int32) := ⟨_, rfl⟩
        have h := h x9 ex9
        refine ct_iinc (k := 3) (v := x9) C dX11_greatestOutcome_67 [(3, .int x9), (2, .int x8), (0, .ref (o + v0)), (1, .int v1)] rfl (by rw [ex9]; rfl) (by decide) rfl ?_
        refine ct_goto C dX11_greatestOutcome_70 25 (by decide) ?_
        refine ct_sub [2, 3, 1, 0] [(0, .ref (o + v0)), (1, .int v1), (2, .int x8), (3, .int x9)] rfl ?_
        exact ih _ _ _ _ _ kv0 h
set_option maxHeartbeats 4000000 in
set_option maxRecDepth 100000 in
theorem c_X11_greatestOutcome (l : Launch) (D : va_G) (cy : Nat → ClassId) (o : Nat) {a0 : Nat} {p1 : Int32} {Q : Int32 → ct_M → Prop} {m : ct_M} (ka0 : ct_K 11 a0) (h : wp_X11_greatestOutcome a0 p1 Q m) : Met l yX11_greatestOutcome (ct_ws yX11_greatestOutcome cX11_greatestOutcome 4 (some .int)) rm_X11_greatestOutcome (va_Pc [.ref (o + a0), .int p1] (ct_P D cy o ct_NN m)) (va_Qi Q (ct_P D cy o ct_NN) (fun q => o ≤ q)) 0 0 (fun q => o ≤ q) := by
  refine ct_met l D cy o ct_NN m (by decide) (Nat.le_of_ble_eq_true rfl) (fun p e s mth args below meth c C hr hlk => ?_)
  refine ct_sub [0, 1] [(0, .ref (o + a0)), (1, .int p1)] rfl ?_
  unfold wp_X11_greatestOutcome at h
  refine ct_iload_n C dX11_greatestOutcome_0 1 rfl rfl ?_
  refine ct_callSi (As := [.int p1]) C (c_X11_isCell l D cy o  h) kv_X11_93 rfl rfl (Nat.le_of_ble_eq_true rfl) ⟨rfl, rfl, Nat.le_of_ble_eq_true rfl, Nat.le_of_ble_eq_true rfl⟩ ⟨Nat.zero_le _, Nat.zero_le _⟩ dX11_greatestOutcome_1 (fun r2 m1 h => ?_)
  refine ct_if_ne C dX11_greatestOutcome_4 9 (by decide) (fun hc3 => ?_) (fun hc3 => ?_)
  · have h := h.1 hc3
    refine ct_aload_n C dX11_greatestOutcome_9 0 rfl rfl ?_
    refine gf_X11_60 C dX11_greatestOutcome_10 ka0 ?_
    have hk4 := ct_t11_8 ka0
    refine ct_aload_n C dX11_greatestOutcome_13 0 rfl rfl ?_
    refine gf_X11_43 C dX11_greatestOutcome_14 ka0 ?_
    have hk5 := ct_t11_2 ka0
    refine ct_callVv (As := [.ref (o + (a0 + 26))]) (T := TX6) C (c_X6_explore l D cy o hk4 hk5 h) kv_X11_176 hk4.1 (ct_E6 hk4) rfl rfl rfl (Nat.le_of_ble_eq_true rfl) ⟨rfl, rfl, Nat.le_of_ble_eq_true rfl, Nat.le_of_ble_eq_true rfl⟩ ⟨Nat.zero_le _, Nat.zero_le _⟩ dX11_greatestOutcome_17 (fun m6 h => ?_)
    refine ct_bipush C dX11_greatestOutcome_20 (-99 : Int32) (by decide) ?_
    refine ct_istore_n C dX11_greatestOutcome_22 [(2, .int (-99 : Int32)), (0, .ref (o + a0)), (1, .int p1)] rfl (by decide) rfl ?_
    refine ct_iconst C dX11_greatestOutcome_23 (0 : Int32) (by decide) ?_
    refine ct_istore_n C dX11_greatestOutcome_24 [(3, .int (0 : Int32)), (2, .int (-99 : Int32)), (0, .ref (o + a0)), (1, .int p1)] rfl (by decide) rfl ?_
    refine ct_sub [2, 3, 1, 0] [(0, .ref (o + a0)), (1, .int p1), (2, .int (-99 : Int32)), (3, .int (0 : Int32))] rfl ?_
    obtain ⟨n7, h⟩ := h
    exact kb_X11_greatestOutcome_25 C hr hlk  n7 _ _ _ _ _ ka0 h
  · have h := h.2 hc3
    refine ct_iconst C dX11_greatestOutcome_7 (-1 : Int32) (by decide) ?_
    exact ct_ireti C hr hlk dX11_greatestOutcome_8 h
