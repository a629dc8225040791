abbrev rm_X12_load : Room := { frames := 5, cells := 0, slots := 0, locals := 116 }
set_option maxHeartbeats 4000000 in
set_option maxRecDepth 100000 in
theorem kb_X12_load_110 {p : Program} {l : Launch} {e : Env} {s : State} {mth : MethodId} {args : Array Value} {below : List Frame} {meth : Method} {c : Code} {D : va_G} {cy : Nat → ClassId} {o : Nat} {Q : Int32 → ct_M → Prop} (C : ct_Cx p s mth c cX12_load 2 args RX12 D cy) (hr : meth.sig.returnType = (some .int)) (hlk : meth.locks = false) : ∀ (n : Nat) (v0 : Nat) (v1 : Int32) (m : ct_M) (kv0 : ct_K 12 v0), wb_X12_load_110 Q n v0 v1 m → ct_J p l e rm_X12_load s mth args below meth c 2 D cy o ct_NN 0 0 (MQ below (va_Qi Q (ct_P D cy o ct_NN) (fun q => o ≤ q)) args s 0 0 (fun q => o ≤ q)) m 110 [(0, .ref (o + v0)), (1, .int v1)] [] := by
  intro n
  induction n with
  | zero => intro v0 v1 m kv0 h; exact h.elim
  | succ n ih =>
    intro v0 v1 m kv0 h
    unfold wb_X12_load_110 at h
    refine ct_iload_n C dX12_load_110 1 rfl rfl ?_
    refine ct_sipush C dX12_load_111 (180 : Int32) (by decide) ?_
    refine ct_icmp_ge C dX12_load_114 171 (by decide) (fun hc1 => ?_) (fun hc1 => ?_)
    · have h := h.1 hc1
      refine ct_aload_n C dX12_load_171 0 rfl rfl ?_
      refine ct_iconst C dX12_load_172 (0 : Int32) (by decide) ?_
      refine pf_X12_187 C dX12_load_173 kv0 ?_
      refine ct_mem (fun m2 em2 => ?_)
      have h := h m2 em2
      refine ct_aload_n C dX12_load_176 0 rfl rfl ?_
      refine gf_X12_44 C dX12_load_177 kv0 ?_
      have hk3 := ct_t12_15 kv0
      refine ct_iconst C dX12_load_180 (0 : Int32) (by decide) ?_
      refine ct_iconst C dX12_load_181 (0 : Int32) (by decide) ?_
      refine ct_zast C dX12_load_182 hk3 h.1 ?_
      have h := h.2
      refine ct_mem (fun m4 em4 => ?_)
      have h := h m4 em4
      refine ct_aload_n C dX12_load_183 0 rfl rfl ?_
      refine gf_X12_44 C dX12_load_184 kv0 ?_
      refine ct_iconst C dX12_load_187 (1 : Int32) (by decide) ?_
      refine ct_iconst C dX12_load_188 (0 : Int32) (by decide) ?_
      refine ct_zast C dX12_load_189 hk3 h.1 ?_
      have h := h.2
      refine ct_mem (fun m5 em5 => ?_)
      have h := h m5 em5
      refine ct_aload_n C dX12_load_190 0 rfl rfl ?_
      refine gf_X12_13 C dX12_load_191 kv0 ?_
      exact ct_ireti C hr hlk dX12_load_194 h
    · have h := h.2 hc1
      refine ct_aload_n C dX12_load_117 0 rfl rfl ?_
      refine gf_X12_20 C dX12_load_118 kv0 ?_
      have hk6 := ct_t12_6 kv0
      refine ct_iload_n C dX12_load_121 1 rfl rfl ?_
      refine ct_aload_n C dX12_load_122 0 rfl rfl ?_
      refine gf_X12_63 C dX12_load_123 kv0 ?_
      have hk7 := ct_t12_23 kv0
      refine ct_iload_n C dX12_load_126 1 rfl rfl ?_
      refine ct_iald C dX12_load_127 hk7 h.1 ?_
      have h := h.2
      refine ct_iast C dX12_load_128 hk6 h.1 ?_
      have h := h.2
      refine ct_mem (fun m8 em8 => ?_)
      have h := h m8 em8
      refine ct_aload_n C dX12_load_129 0 rfl rfl ?_
      refine gf_X12_23 C dX12_load_130 kv0 ?_
      have hk9 := ct_t12_7 kv0
      refine ct_iload_n C dX12_load_133 1 rfl rfl ?_
      refine ct_aload_n C dX12_load_134 0 rfl rfl ?_
      refine gf_X12_66 C dX12_load_135 kv0 ?_
      have hk10 := ct_t12_24 kv0
      refine ct_iload_n C dX12_load_138 1 rfl rfl ?_
      refine ct_iald C dX12_load_139 hk10 h.1 ?_
      have h := h.2
      refine ct_iast C dX12_load_140 hk9 h.1 ?_
      have h := h.2
      refine ct_mem (fun m11 em11 => ?_)
      have h := h m11 em11
      refine ct_aload_n C dX12_load_141 0 rfl rfl ?_
      refine gf_X12_26 C dX12_load_142 kv0 ?_
      have hk12 := ct_t12_8 kv0
      refine ct_iload_n C dX12_load_145 1 rfl rfl ?_
      refine ct_aload_n C dX12_load_146 0 rfl rfl ?_
      refine gf_X12_69 C dX12_load_147 kv0 ?_
      have hk13 := ct_t12_25 kv0
      refine ct_iload_n C dX12_load_150 1 rfl rfl ?_
      refine ct_iald C dX12_load_151 hk13 h.1 ?_
      have h := h.2
      refine ct_iast C dX12_load_152 hk12 h.1 ?_
      have h := h.2
      refine ct_mem (fun m14 em14 => ?_)
      have h := h m14 em14
      refine ct_aload_n C dX12_load_153 0 rfl rfl ?_
      refine gf_X12_29 C dX12_load_154 kv0 ?_
      have hk15 := ct_t12_9 kv0
      refine ct_iload_n C dX12_load_157 1 rfl rfl ?_
      refine ct_aload_n C dX12_load_158 0 rfl rfl ?_
      refine gf_X12_72 C dX12_load_159 kv0 ?_
      have hk16 := ct_t12_26 kv0
      refine ct_iload_n C dX12_load_162 1 rfl rfl ?_
      refine ct_iald C dX12_load_163 hk16 h.1 ?_
      have h := h.2
      refine ct_iast C dX12_load_164 hk15 h.1 ?_
      have h := h.2
      refine ct_mem (fun m17 em17 => ?_)
      have h := h m17 em17
      obtain ⟨x18, ex18⟩ : ∃ z : Int32, z = v1 + (1 : Int32) := ⟨_, rfl⟩
      have h := h x18 ex18
      refine ct_iinc (k := 1) (v := x18) C dX12_load_165 [(1, .int x18), (0, .ref (o + v0))] rfl (by rw [ex18]; rfl) (by decide) rfl ?_
      refine ct_goto C dX12_load_168 110 (by decide) ?_
      refine ct_sub [1, 0] [(0, .ref (o + v0)), (1, .int x18)] rfl ?_
      exact ih _ _ _ kv0 h
set_option maxHeartbeats 4000000 in
set_option maxRecDepth 100000 in
theorem kb_X12_load_64 {p : Program} {l : Launch} {e : Env} {s : State} {mth : MethodId} {args : Array Value} {below : List Frame} {meth : Method} {c : Code} {D : va_G} {cy : Nat → ClassId} {o : Nat} {Q : Int32 → ct_M → Prop} (C : ct_Cx p s mth c cX12_load 2 args RX12 D cy) (hr : meth.sig.returnType = (some .int)) (hlk : meth.locks = false) : ∀ (n : Nat) (v0 : Nat) (v1 : Int32) (m : ct_M) (kv0 : ct_K 12 v0), wb_X12_load_64 Q n v0 v1 m → ct_J p l e rm_X12_load s mth args below meth c 2 D cy o ct_NN 0 0 (MQ below (va_Qi Q (ct_P D cy o ct_NN) (fun q => o ≤ q)) args s 0 0 (fun q => o ≤ q)) m 64 [(0, .ref (o + v0)), (1, .int v1)] [] := by
  intro n
  induction n with
  | zero => intro v0 v1 m kv0 h; exact h.elim
  | succ n ih =>
    intro v0 v1 m kv0 h
    unfold wb_X12_load_64 at h
    refine ct_iload_n C dX12_load_64 1 rfl rfl ?_
    refine ct_aload_n C dX12_load_65 0 rfl rfl ?_
    refine gf_X12_13 C dX12_load_66 kv0 ?_
    refine ct_icmp_ge C dX12_load_69 108 (by decide) (fun hc1 => ?_) (fun hc1 => ?_)
    · have h := h.1 hc1
      refine ct_iconst C dX12_load_108 (0 : Int32) (by decide) ?_
      refine ct_istore_n C dX12_load_109 [(1, .int (0 : Int32)), (0, .ref (o + v0))] rfl (by decide) rfl ?_
      refine ct_sub [1, 0] [(0, .ref (o + v0)), (1, .int (0 : Int32))] rfl ?_
      obtain ⟨n2, h⟩ := h
      exact kb_X12_load_110 C hr hlk  n2 _ _ _ kv0 h
    · have h := h.2 hc1
      refine ct_aload_n C dX12_load_72 0 rfl rfl ?_
      refine gf_X12_17 C dX12_load_73 kv0 ?_
      have hk3 := ct_t12_5 kv0
      refine ct_iload_n C dX12_load_76 1 rfl rfl ?_
      refine ct_aload_n C dX12_load_77 0 rfl rfl ?_
      refine gf_X12_60 C dX12_load_78 kv0 ?_
      have hk4 := ct_t12_22 kv0
      refine ct_iload_n C dX12_load_81 1 rfl rfl ?_
      refine ct_iald C dX12_load_82 hk4 h.1 ?_
      have h := h.2
      refine ct_iast C dX12_load_83 hk3 h.1 ?_
      have h := h.2
      refine ct_mem (fun m5 em5 => ?_)
      have h := h m5 em5
      refine ct_aload_n C dX12_load_84 0 rfl rfl ?_
      refine gf_X12_32 C dX12_load_85 kv0 ?_
      have hk6 := ct_t12_10 kv0
      refine ct_iload_n C dX12_load_88 1 rfl rfl ?_
      refine ct_callSi (As := [.int v1]) C (c_X12_at l D cy o  h) kv_X12_88 rfl rfl (Nat.le_of_ble_eq_true rfl) ⟨rfl, rfl, Nat.le_of_ble_eq_true rfl, Nat.le_of_ble_eq_true rfl⟩ ⟨Nat.zero_le _, Nat.zero_le _⟩ dX12_load_89 (fun r8 m7 h => ?_)
      refine ct_bipush C dX12_load_92 (47 : Int32) (by decide) ?_
      refine ct_iadd C dX12_load_94 ?_
      refine ct_aload_n C dX12_load_95 0 rfl rfl ?_
      refine gf_X12_57 C dX12_load_96 kv0 ?_
      have hk9 := ct_t12_21 kv0
      refine ct_iload_n C dX12_load_99 1 rfl rfl ?_
      refine ct_iald C dX12_load_100 hk9 h.1 ?_
      have h := h.2
      refine ct_iast C dX12_load_101 hk6 h.1 ?_
      have h := h.2
      refine ct_mem (fun m10 em10 => ?_)
      have h := h m10 em10
      obtain ⟨x11, ex11⟩ : ∃ z : Int32, z = v1 + (1 : Int32) := ⟨_, rfl⟩
      have h := h x11 ex11
      refine ct_iinc (k := 1) (v := x11) C dX12_load_102 [(1, .int x11), (0, .ref (o + v0))] rfl (by rw [ex11]; rfl) (by decide) rfl ?_
      refine ct_goto C dX12_load_105 64 (by decide) ?_
      refine ct_sub [1, 0] [(0, .ref (o + v0)), (1, .int x11)] rfl ?_
      exact ih _ _ _ kv0 h
set_option maxHeartbeats 4000000 in
set_option maxRecDepth 100000 in
theorem kb_X12_load_55 {p : Program} {l : Launch} {e : Env} {s : State} {mth : MethodId} {args : Array Value} {below : List Frame} {meth : Method} {c : Code} {D : va_G} {cy : Nat → ClassId} {o : Nat} {Q : Int32 → ct_M → Prop} {K27 : Nat → Int32 → ct_M → Prop} {v0 : Nat} {v1 : Int32} {s0 : Int32} {s1 : Int32} {s2 : Nat} {m : ct_M} (C : ct_Cx p s mth c cX12_load 2 args RX12 D cy) (hr : meth.sig.returnType = (some .int)) (hlk : meth.locks = false) (hK27 : ∀ (v0 : Nat) (v1 : Int32) (m : ct_M), ct_K 12 v0 → K27 v0 v1 m → ct_J p l e rm_X12_load s mth args below meth c 2 D cy o ct_NN 0 0 (MQ below (va_Qi Q (ct_P D cy o ct_NN) (fun q => o ≤ q)) args s 0 0 (fun q => o ≤ q)) m 27 [(0, .ref (o + v0)), (1, .int v1)] []) (kv0 : ct_K 12 v0) (ks2 : ct_K 14 s2) (h : wb_X12_load_55 K27 Q v0 v1 s0 s1 s2 m) : ct_J p l e rm_X12_load s mth args below meth c 2 D cy o ct_NN 0 0 (MQ below (va_Qi Q (ct_P D cy o ct_NN) (fun q => o ≤ q)) args s 0 0 (fun q => o ≤ q)) m 55 [(0, .ref (o + v0)), (1, .int v1)] [.int s0, .int s1, .ref (o + s2)] := by
  unfold wb_X12_load_55 at h
  refine ct_iast C dX12_load_55 ks2 h.1 ?_
  have h := h.2
  refine ct_mem (fun m1 em1 => ?_)
  have h := h m1 em1
  obtain ⟨x2, ex2⟩ : ∃ z : Int32, z = v1 + (1 : Int32) := ⟨_, rfl⟩
  have h := h x2 ex2
  refine ct_iinc (k := 1) (v := x2) C dX12_load_56 [(1, .int x2), (0, .ref (o + v0))] rfl (by rw [ex2]; rfl) (by decide) rfl ?_
  refine ct_goto C dX12_load_59 27 (by decide) ?_
  refine ct_sub [1, 0] [(0, .ref (o + v0)), (1, .int x2)] rfl ?_
  exact hK27 _ _ _ kv0 h
set_option maxHeartbeats 4000000 in
set_option maxRecDepth 100000 in
theorem kb_X12_load_27 {p : Program} {l : Launch} {e : Env} {s : State} {mth : MethodId} {args : Array Value} {below : List Frame} {meth : Method} {c : Code} {D : va_G} {cy : Nat → ClassId} {o : Nat} {Q : Int32 → ct_M → Prop} (C : ct_Cx p s mth c cX12_load 2 args RX12 D cy) (hr : meth.sig.returnType = (some .int)) (hlk : meth.locks = false) : ∀ (n : Nat) (v0 : Nat) (v1 : Int32) (m : ct_M) (kv0 : ct_K 12 v0), wb_X12_load_27 Q n v0 v1 m → ct_J p l e rm_X12_load s mth args below meth c 2 D cy o ct_NN 0 0 (MQ below (va_Qi Q (ct_P D cy o ct_NN) (fun q => o ≤ q)) args s 0 0 (fun q => o ≤ q)) m 27 [(0, .ref (o + v0)), (1, .int v1)] [] := by
  intro n
  induction n with
  | zero => intro v0 v1 m kv0 h; exact h.elim
  | succ n ih =>
    intro v0 v1 m kv0 h
    unfold wb_X12_load_27 at h
    refine ct_iload_n C dX12_load_27 1 rfl rfl ?_
    refine ct_sipush C dX12_load_28 (172 : Int32) (by decide) ?_
    refine ct_icmp_ge C dX12_load_31 62 (by decide) (fun hc1 => ?_) (fun hc1 => ?_)
    · have h := h.1 hc1
      refine ct_iconst C dX12_load_62 (0 : Int32) (by decide) ?_
      refine ct_istore_n C dX12_load_63 [(1, .int (0 : Int32)), (0, .ref (o + v0))] rfl (by decide) rfl ?_
      refine ct_sub [1, 0] [(0, .ref (o + v0)), (1, .int (0 : Int32))] rfl ?_
      obtain ⟨n2, h⟩ := h
      exact kb_X12_load_64 C hr hlk  n2 _ _ _ kv0 h
    · have h := h.2 hc1
      refine ct_aload_n C dX12_load_34 0 rfl rfl ?_
      refine gf_X12_32 C dX12_load_35 kv0 ?_
      have hk3 := ct_t12_10 kv0
      refine ct_iload_n C dX12_load_38 1 rfl rfl ?_
      refine ct_iload_n C dX12_load_39 1 rfl rfl ?_
      refine ct_bipush C dX12_load_40 (6 : Int32) (by decide) ?_
      refine ct_icmp_ge C dX12_load_42 54 (by decide) (fun hc4 => ?_) (fun hc4 => ?_)
      · have h := h.1 hc4
        refine ct_iconst C dX12_load_54 (0 : Int32) (by decide) ?_
        refine ct_sub [0, 1] [(0, .ref (o + v0)), (1, .int v1)] rfl ?_
        exact kb_X12_load_55 C hr hlk ih kv0 hk3 h
      · have h := h.2 hc4
        refine ct_aload_n C dX12_load_45 0 rfl rfl ?_
        refine gf_X12_54 C dX12_load_46 kv0 ?_
        have hk5 := ct_t12_20 kv0
        refine ct_iload_n C dX12_load_49 1 rfl rfl ?_
        refine ct_iald C dX12_load_50 hk5 h.1 ?_
        have h := h.2
        refine ct_goto C dX12_load_51 55 (by decide) ?_
        refine ct_sub [0, 1] [(0, .ref (o + v0)), (1, .int v1)] rfl ?_
        exact kb_X12_load_55 C hr hlk ih kv0 hk3 h
set_option maxHeartbeats 4000000 in
set_option maxRecDepth 100000 in
theorem c_X12_load (l : Launch) (D : va_G) (cy : Nat → ClassId) (o : Nat) {a0 : Nat} {Q : Int32 → ct_M → Prop} {m : ct_M} (ka0 : ct_K 12 a0) (h : wp_X12_load a0 Q m) : Met l yX12_load (ct_ws yX12_load cX12_load 2 (some .int)) rm_X12_load (va_Pc [.ref (o + a0)] (ct_P D cy o ct_NN m)) (va_Qi Q (ct_P D cy o ct_NN) (fun q => o ≤ q)) 0 0 (fun q => o ≤ q) := by
  refine ct_met l D cy o ct_NN m (by decide) (Nat.le_of_ble_eq_true rfl) (fun p e s mth args below meth c C hr hlk => ?_)
  refine ct_sub [0] [(0, .ref (o + a0))] rfl ?_
  unfold wp_X12_load at h
  refine ct_aload_n C dX12_load_0 0 rfl rfl ?_
  refine ct_iconst C dX12_load_1 (0 : Int32) (by decide) ?_
  refine pf_X12_85 C dX12_load_2 ka0 ?_
  refine ct_mem (fun m1 em1 => ?_)
  have h := h m1 em1
  refine ct_aload_n C dX12_load_5 0 rfl rfl ?_
  refine ct_callVi (As := []) (T := TX12) C (c_X12_errorPosition l D cy o ka0 h) kv_X12_183 ka0.1 (ct_E12 ka0) rfl rfl rfl (Nat.le_of_ble_eq_true rfl) ⟨rfl, rfl, Nat.le_of_ble_eq_true rfl, Nat.le_of_ble_eq_true rfl⟩ ⟨Nat.zero_le _, Nat.zero_le _⟩ dX12_load_6 (fun r3 m2 h => ?_)
  refine ct_bipush C dX12_load_9 (-9 : Int32) (by decide) ?_
  refine ct_icmp_eq C dX12_load_11 17 (by decide) (fun hc4 => ?_) (fun hc4 => ?_)
  · have h := h.1 hc4
    refine ct_aload_n C dX12_load_17 0 rfl rfl ?_
    refine ct_aload_n C dX12_load_18 0 rfl rfl ?_
    refine gf_X12_158 C dX12_load_19 ka0 ?_
    refine pf_X12_13 C dX12_load_22 ka0 ?_
    refine ct_mem (fun m5 em5 => ?_)
    have h := h m5 em5
    refine ct_iconst C dX12_load_25 (0 : Int32) (by decide) ?_
    refine ct_istore_n C dX12_load_26 [(1, .int (0 : Int32)), (0, .ref (o + a0))] rfl (by decide) rfl ?_
    refine ct_sub [1, 0] [(0, .ref (o + a0)), (1, .int (0 : Int32))] rfl ?_
    obtain ⟨n6, h⟩ := h
    exact kb_X12_load_27 C hr hlk  n6 _ _ _ ka0 h
  · have h := h.2 hc4
    refine ct_bipush C dX12_load_14 (-3 : Int32) (by decide) ?_
    exact ct_ireti C hr hlk dX12_load_16 h
abbrev rm_X12_noCell : Room := { frames := 1, cells := 0, slots := 0, locals := 25 }
set_option maxHeartbeats 4000000 in
set_option maxRecDepth 100000 in
theorem c_X12_noCell (l : Launch) (D : va_G) (cy : Nat → ClassId) (o : Nat) {p0 : Int32} {Q : Int32 → ct_M → Prop} {m : ct_M} (h : wp_X12_noCell p0 Q m) : Met l yX12_noCell (ct_ws yX12_noCell cX12_noCell 1 (some .boolean)) rm_X12_noCell (va_Pc [.int p0] (ct_P D cy o ct_NN m)) (va_Qi Q (ct_P D cy o ct_NN) (fun q => o ≤ q)) 0 0 (fun q => o ≤ q) := by
  refine ct_met l D cy o ct_NN m (by decide) (Nat.le_of_ble_eq_true rfl) (fun p e s mth args below meth c C hr hlk => ?_)
  refine ct_sub [0] [(0, .int p0)] rfl ?_
  unfold wp_X12_noCell at h
  refine ct_iload_n C dX12_noCell_0 0 rfl rfl ?_
  refine ct_i2l C dX12_noCell_1 ?_
  refine ct_lconst C dX12_noCell_2 (0 : Int64) (by decide) ?_
  refine ct_ldc2 C dX12_noCell_3 mw_538 ?_
  refine ct_callSi (As := [.long p0.toInt64, .long (0 : Int64), .long (5 : Int64)]) C (c_X12_in l D cy o  h) kv_X12_148 rfl rfl (Nat.le_of_ble_eq_true rfl) ⟨rfl, rfl, Nat.le_of_ble_eq_true rfl, Nat.le_of_ble_eq_true rfl⟩ ⟨Nat.zero_le _, Nat.zero_le _⟩ dX12_noCell_6 (fun r2 m1 h => ?_)
  refine ct_if_ne C dX12_noCell_9 16 (by decide) (fun hc3 => ?_) (fun hc3 => ?_)
  · have h := h.1 hc3
    refine ct_iconst C dX12_noCell_16 (0 : Int32) (by decide) ?_
    exact ct_zret C hr hlk dX12_noCell_17 (by decide) h
  · have h := h.2 hc3
    refine ct_iconst C dX12_noCell_12 (1 : Int32) (by decide) ?_
    refine ct_goto C dX12_noCell_13 17 (by decide) ?_
    exact ct_zret C hr hlk dX12_noCell_17 (by decide) h
abbrev rm_X12_noThread : Room := { frames := 1, cells := 0, slots := 0, locals := 25 }
set_option maxHeartbeats 4000000 in
set_option maxRecDepth 100000 in
theorem c_X12_noThread (l : Launch) (D : va_G) (cy : Nat → ClassId) (o : Nat) {a0 : Nat} {p1 : Int32} {Q : Int32 → ct_M → Prop} {m : ct_M} (ka0 : ct_K 12 a0) (h : wp_X12_noThread a0 p1 Q m) : Met l yX12_noThread (ct_ws yX12_noThread cX12_noThread 2 (some .boolean)) rm_X12_noThread (va_Pc [.ref (o + a0), .int p1] (ct_P D cy o ct_NN m)) (va_Qi Q (ct_P D cy o ct_NN) (fun q => o ≤ q)) 0 0 (fun q => o ≤ q) := by
  refine ct_met l D cy o ct_NN m (by decide) (Nat.le_of_ble_eq_true rfl) (fun p e s mth args below meth c C hr hlk => ?_)
  refine ct_sub [0, 1] [(0, .ref (o + a0)), (1, .int p1)] rfl ?_
  unfold wp_X12_noThread at h
  refine ct_iload_n C dX12_noThread_0 1 rfl rfl ?_
  refine ct_i2l C dX12_noThread_1 ?_
  refine ct_lconst C dX12_noThread_2 (0 : Int64) (by decide) ?_
  refine ct_aload_n C dX12_noThread_3 0 rfl rfl ?_
  refine gf_X12_13 C dX12_noThread_4 ka0 ?_
  refine ct_iconst C dX12_noThread_7 (1 : Int32) (by decide) ?_
  refine ct_isub C dX12_noThread_8 ?_
  refine ct_i2l C dX12_noThread_9 ?_
  refine ct_callSi (As := [.long p1.toInt64, .long (0 : Int64), .long (((m.1 a0 4) - (1 : Int32)).toInt64)]) C (c_X12_in l D cy o  h) kv_X12_148 rfl rfl (Nat.le_of_ble_eq_true rfl) ⟨rfl, rfl, Nat.le_of_ble_eq_true rfl, Nat.le_of_ble_eq_true rfl⟩ ⟨Nat.zero_le _, Nat.zero_le _⟩ dX12_noThread_10 (fun r2 m1 h => ?_)
  refine ct_if_ne C dX12_noThread_13 20 (by decide) (fun hc3 => ?_) (fun hc3 => ?_)
  · have h := h.1 hc3
    refine ct_iconst C dX12_noThread_20 (0 : Int32) (by decide) ?_
    exact ct_zret C hr hlk dX12_noThread_21 (by decide) h
  · have h := h.2 hc3
    refine ct_iconst C dX12_noThread_16 (1 : Int32) (by decide) ?_
    refine ct_goto C dX12_noThread_17 21 (by decide) ?_
    exact ct_zret C hr hlk dX12_noThread_21 (by decide) h
abbrev rm_X12_value : Room := { frames := 2, cells := 0, slots := 0, locals := 45 }
set_option maxHeartbeats 4000000 in
set_option maxRecDepth 100000 in
theorem c_X12_value (l : Launch) (D : va_G) (cy : Nat → ClassId) (o : Nat) {a0 : Nat} {p1 : Int32} {Q : Int32 → ct_M → Prop} {m : ct_M} (ka0 : ct_K 12 a0) (h : wp_X12_value a0 p1 Q m) : Met l yX12_value (ct_ws yX12_value cX12_value 2 (some .int)) rm_X12_value (va_Pc [.ref (o + a0), .int p1] (ct_P D cy o ct_NN m)) (va_Qi Q (ct_P D cy o ct_NN) (fun q => o ≤ q)) 0 0 (fun q => o ≤ q) := by
  refine ct_met l D cy o ct_NN m (by decide) (Nat.le_of_ble_eq_true rfl) (fun p e s mth args below meth c C hr hlk => ?_)
  refine ct_sub [0, 1] [(0, .ref (o + a0)), (1, .int p1)] rfl ?_
  unfold wp_X12_value at h
  refine ct_aload_n C dX12_value_0 0 rfl rfl ?_
  refine ct_iconst C dX12_value_1 (0 : Int32) (by decide) ?_
  refine pf_X12_85 C dX12_value_2 ka0 ?_
  refine ct_mem (fun m1 em1 => ?_)
  have h := h m1 em1
  refine ct_iload_n C dX12_value_5 1 rfl rfl ?_
  refine ct_callSi (As := [.int p1]) C (c_X12_noCell l D cy o  h) kv_X12_192 rfl rfl (Nat.le_of_ble_eq_true rfl) ⟨rfl, rfl, Nat.le_of_ble_eq_true rfl, Nat.le_of_ble_eq_true rfl⟩ ⟨Nat.zero_le _, Nat.zero_le _⟩ dX12_value_6 (fun r3 m2 h => ?_)
  refine ct_if_eq C dX12_value_9 16 (by decide) (fun hc4 => ?_) (fun hc4 => ?_)
  · have h := h.1 hc4
    refine ct_aload_n C dX12_value_16 0 rfl rfl ?_
    refine gf_X12_32 C dX12_value_17 ka0 ?_
    have hk5 := ct_t12_10 ka0
    refine ct_iload_n C dX12_value_20 1 rfl rfl ?_
    refine ct_iald C dX12_value_21 hk5 h.1 ?_
    have h := h.2
    refine ct_bipush C dX12_value_22 (100 : Int32) (by decide) ?_
    refine ct_iadd C dX12_value_24 ?_
    exact ct_ireti C hr hlk dX12_value_25 h
  · have h := h.2 hc4
    refine ct_iconst C dX12_value_12 (-1 : Int32) (by decide) ?_
    refine ct_goto C dX12_value_13 25 (by decide) ?_
    exact ct_ireti C hr hlk dX12_value_25 h
abbrev rm_X12_version : Room := { frames := 2, cells := 0, slots := 0, locals := 45 }
set_option maxHeartbeats 4000000 in
set_option maxRecDepth 100000 in
theorem c_X12_version (l : Launch) (D : va_G) (cy : Nat → ClassId) (o : Nat) {a0 : Nat} {p1 : Int32} {Q : Int32 → ct_M → Prop} {m : ct_M} (ka0 : ct_K 12 a0) (h : wp_X12_version a0 p1 Q m) : Met l yX12_version (ct_ws yX12_version cX12_version 2 (some .int)) rm_X12_version (va_Pc [.ref (o + a0), .int p1] (ct_P D cy o ct_NN m)) (va_Qi Q (ct_P D cy o ct_NN) (fun q => o ≤ q)) 0 0 (fun q => o ≤ q) := by
  refine ct_met l D cy o ct_NN m (by decide) (Nat.le_of_ble_eq_true rfl) (fun p e s mth args below meth c C hr hlk => ?_)
  refine ct_sub [0, 1] [(0, .ref (o + a0)), (1, .int p1)] rfl ?_
  unfold wp_X12_version at h
  refine ct_aload_n C dX12_version_0 0 rfl rfl ?_
  refine ct_iconst C dX12_version_1 (0 : Int32) (by decide) ?_
  refine pf_X12_85 C dX12_version_2 ka0 ?_
  refine ct_mem (fun m1 em1 => ?_)
  have h := h m1 em1
  refine ct_iload_n C dX12_version_5 1 rfl rfl ?_
  refine ct_callSi (As := [.int p1]) C (c_X12_noCell l D cy o  h) kv_X12_192 rfl rfl (Nat.le_of_ble_eq_true rfl) ⟨rfl, rfl, Nat.le_of_ble_eq_true rfl, Nat.le_of_ble_eq_true rfl⟩ ⟨Nat.zero_le _, Nat.zero_le _⟩ dX12_version_6 (fun r3 m2 h => ?_)
  refine ct_if_eq C dX12_version_9 16 (by decide) (fun hc4 => ?_) (fun hc4 => ?_)
  · have h := h.1 hc4
    refine ct_aload_n C dX12_version_16 0 rfl rfl ?_
    refine gf_X12_32 C dX12_version_17 ka0 ?_
    have hk5 := ct_t12_10 ka0
    refine ct_bipush C dX12_version_20 (6 : Int32) (by decide) ?_
    refine ct_iload_n C dX12_version_22 1 rfl rfl ?_
    refine ct_iadd C dX12_version_23 ?_
    refine ct_iald C dX12_version_24 hk5 h.1 ?_
    have h := h.2
    exact ct_ireti C hr hlk dX12_version_25 h
  · have h := h.2 hc4
    refine ct_iconst C dX12_version_12 (-1 : Int32) (by decide) ?_
    refine ct_goto C dX12_version_13 25 (by decide) ?_
    exact ct_ireti C hr hlk dX12_version_25 h
abbrev rm_X12_threadCount : Room := { frames := 0, cells := 0, slots := 0, locals := 0 }
set_option maxHeartbeats 4000000 in
set_option maxRecDepth 100000 in
theorem c_X12_threadCount (l : Launch) (D : va_G) (cy : Nat → ClassId) (o : Nat) {a0 : Nat} {Q : Int32 → ct_M → Prop} {m : ct_M} (ka0 : ct_K 12 a0) (h : wp_X12_threadCount a0 Q m) : Met l yX12_threadCount (ct_ws yX12_threadCount cX12_threadCount 1 (some .int)) rm_X12_threadCount (va_Pc [.ref (o + a0)] (ct_P D cy o ct_NN m)) (va_Qi Q (ct_P D cy o ct_NN) (fun q => o ≤ q)) 0 0 (fun q => o ≤ q) := by
  refine ct_met l D cy o ct_NN m (by decide) (Nat.le_of_ble_eq_true rfl) (fun p e s mth args below meth c C hr hlk => ?_)
  refine ct_sub [0] [(0, .ref (o + a0))] rfl ?_
  unfold wp_X12_threadCount at h
  refine ct_aload_n C dX12_threadCount_0 0 rfl rfl ?_
  refine ct_iconst C dX12_threadCount_1 (0 : Int32) (by decide) ?_
  refine pf_X12_85 C dX12_threadCount_2 ka0 ?_
  refine ct_mem (fun m1 em1 => ?_)
  have h := h m1 em1
  refine ct_aload_n C dX12_threadCount_5 0 rfl rfl ?_
  refine gf_X12_13 C dX12_threadCount_6 ka0 ?_
  exact ct_ireti C hr hlk dX12_threadCount_9 h
abbrev rm_X12_state : Room := { frames := 2, cells := 0, slots := 0, locals := 46 }
set_option maxHeartbeats 4000000 in
set_option maxRecDepth 100000 in
theorem c_X12_state (l : Launch) (D : va_G) (cy : Nat → ClassId) (o : Nat) {a0 : Nat} {p1 : Int32} {Q : Int32 → ct_M → Prop} {m : ct_M} (ka0 : ct_K 12 a0) (h : wp_X12_state a0 p1 Q m) : Met l yX12_state (ct_ws yX12_state cX12_state 2 (some .int)) rm_X12_state (va_Pc [.ref (o + a0), .int p1] (ct_P D cy o ct_NN m)) (va_Qi Q (ct_P D cy o ct_NN) (fun q => o ≤ q)) 0 0 (fun q => o ≤ q) := by
  refine ct_met l D cy o ct_NN m (by decide) (Nat.le_of_ble_eq_true rfl) (fun p e s mth args below meth c C hr hlk => ?_)
  refine ct_sub [0, 1] [(0, .ref (o + a0)), (1, .int p1)] rfl ?_
  unfold wp_X12_state at h
  refine ct_aload_n C dX12_state_0 0 rfl rfl ?_
  refine ct_iconst C dX12_state_1 (0 : Int32) (by decide) ?_
  refine pf_X12_85 C dX12_state_2 ka0 ?_
  refine ct_mem (fun m1 em1 => ?_)
  have h := h m1 em1
  refine ct_aload_n C dX12_state_5 0 rfl rfl ?_
  refine ct_iload_n C dX12_state_6 1 rfl rfl ?_
  refine ct_callVi (As := [.int p1]) (T := TX12) C (c_X12_noThread l D cy o ka0 h) kv_X12_195 ka0.1 (ct_E12 ka0) rfl rfl rfl (Nat.le_of_ble_eq_true rfl) ⟨rfl, rfl, Nat.le_of_ble_eq_true rfl, Nat.le_of_ble_eq_true rfl⟩ ⟨Nat.zero_le _, Nat.zero_le _⟩ dX12_state_7 (fun r3 m2 h => ?_)
  refine ct_if_eq C dX12_state_10 17 (by decide) (fun hc4 => ?_) (fun hc4 => ?_)
  · have h := h.1 hc4
    refine ct_aload_n C dX12_state_17 0 rfl rfl ?_
    refine gf_X12_32 C dX12_state_18 ka0 ?_
    have hk5 := ct_t12_10 ka0
    refine ct_iload_n C dX12_state_21 1 rfl rfl ?_
    refine ct_callSi (As := [.int p1]) C (c_X12_at l D cy o  h) kv_X12_88 rfl rfl (Nat.le_of_ble_eq_true rfl) ⟨rfl, rfl, Nat.le_of_ble_eq_true rfl, Nat.le_of_ble_eq_true rfl⟩ ⟨Nat.zero_le _, Nat.zero_le _⟩ dX12_state_22 (fun r7 m6 h => ?_)
    refine ct_iconst C dX12_state_25 (0 : Int32) (by decide) ?_
    refine ct_iadd C dX12_state_26 ?_
    refine ct_iald C dX12_state_27 hk5 h.1 ?_
    have h := h.2
    exact ct_ireti C hr hlk dX12_state_28 h
  · have h := h.2 hc4
    refine ct_iconst C dX12_state_13 (-1 : Int32) (by decide) ?_
    refine ct_goto C dX12_state_14 28 (by decide) ?_
    exact ct_ireti C hr hlk dX12_state_28 h
abbrev rm_X12_position : Room := { frames := 2, cells := 0, slots := 0, locals := 46 }
set_option maxHeartbeats 4000000 in
set_option maxRecDepth 100000 in
theorem c_X12_position (l : Launch) (D : va_G) (cy : Nat → ClassId) (o : Nat) {a0 : Nat} {p1 : Int32} {Q : Int32 → ct_M → Prop} {m : ct_M} (ka0 : ct_K 12 a0) (h : wp_X12_position a0 p1 Q m) : Met l yX12_position (ct_ws yX12_position cX12_position 2 (some .int)) rm_X12_position (va_Pc [.ref (o + a0), .int p1] (ct_P D cy o ct_NN m)) (va_Qi Q (ct_P D cy o ct_NN) (fun q => o ≤ q)) 0 0 (fun q => o ≤ q) := by
  refine ct_met l D cy o ct_NN m (by decide) (Nat.le_of_ble_eq_true rfl) (fun p e s mth args below meth c C hr hlk => ?_)
  refine ct_sub [0, 1] [(0, .ref (o + a0)), (1, .int p1)] rfl ?_
  unfold wp_X12_position at h
  refine ct_aload_n C dX12_position_0 0 rfl rfl ?_
  refine ct_iconst C dX12_position_1 (0 : Int32) (by decide) ?_
  refine pf_X12_85 C dX12_position_2 ka0 ?_
  refine ct_mem (fun m1 em1 => ?_)
  have h := h m1 em1
  refine ct_aload_n C dX12_position_5 0 rfl rfl ?_
  refine ct_iload_n C dX12_position_6 1 rfl rfl ?_
  refine ct_callVi (As := [.int p1]) (T := TX12) C (c_X12_noThread l D cy o ka0 h) kv_X12_195 ka0.1 (ct_E12 ka0) rfl rfl rfl (Nat.le_of_ble_eq_true rfl) ⟨rfl, rfl, Nat.le_of_ble_eq_true rfl, Nat.le_of_ble_eq_true rfl⟩ ⟨Nat.zero_le _, Nat.zero_le _⟩ dX12_position_7 (fun r3 m2 h => ?_)
  refine ct_if_eq C dX12_position_10 17 (by decide) (fun hc4 => ?_) (fun hc4 => ?_)
  · have h := h.1 hc4
    refine ct_aload_n C dX12_position_17 0 rfl rfl ?_
    refine gf_X12_32 C dX12_position_18 ka0 ?_
    have hk5 := ct_t12_10 ka0
    refine ct_iload_n C dX12_position_21 1 rfl rfl ?_
    refine ct_callSi (As := [.int p1]) C (c_X12_at l D cy o  h) kv_X12_88 rfl rfl (Nat.le_of_ble_eq_true rfl) ⟨rfl, rfl, Nat.le_of_ble_eq_true rfl, Nat.le_of_ble_eq_true rfl⟩ ⟨Nat.zero_le _, Nat.zero_le _⟩ dX12_position_22 (fun r7 m6 h => ?_)
    refine ct_iconst C dX12_position_25 (1 : Int32) (by decide) ?_
    refine ct_iadd C dX12_position_26 ?_
    refine ct_iald C dX12_position_27 hk5 h.1 ?_
    have h := h.2
    exact ct_ireti C hr hlk dX12_position_28 h
  · have h := h.2 hc4
    refine ct_iconst C dX12_position_13 (-1 : Int32) (by decide) ?_
    refine ct_goto C dX12_position_14 28 (by decide) ?_
    exact ct_ireti C hr hlk dX12_position_28 h
abbrev rm_X12_accumulator : Room := { frames := 2, cells := 0, slots := 0, locals := 46 }
set_option maxHeartbeats 4000000 in
set_option maxRecDepth 100000 in
theorem c_X12_accumulator (l : Launch) (D : va_G) (cy : Nat → ClassId) (o : Nat) {a0 : Nat} {p1 : Int32} {Q : Int32 → ct_M → Prop} {m : ct_M} (ka0 : ct_K 12 a0) (h : wp_X12_accumulator a0 p1 Q m) : Met l yX12_accumulator (ct_ws yX12_accumulator cX12_accumulator 2 (some .int)) rm_X12_accumulator (va_Pc [.ref (o + a0), .int p1] (ct_P D cy o ct_NN m)) (va_Qi Q (ct_P D cy o ct_NN) (fun q => o ≤ q)) 0 0 (fun q => o ≤ q) := by
  refine ct_met l D cy o ct_NN m (by decide) (Nat.le_of_ble_eq_true rfl) (fun p e s mth args below meth c C hr hlk => ?_)
  refine ct_sub [0, 1] [(0, .ref (o + a0)), (1, .int p1)] rfl ?_
  unfold wp_X12_accumulator at h
  refine ct_aload_n C dX12_accumulator_0 0 rfl rfl ?_
  refine ct_iconst C dX12_accumulator_1 (0 : Int32) (by decide) ?_
  refine pf_X12_85 C dX12_accumulator_2 ka0 ?_
  refine ct_mem (fun m1 em1 => ?_)
  have h := h m1 em1
  refine ct_aload_n C dX12_accumulator_5 0 rfl rfl ?_
  refine ct_iload_n C dX12_accumulator_6 1 rfl rfl ?_
  refine ct_callVi (As := [.int p1]) (T := TX12) C (c_X12_noThread l D cy o ka0 h) kv_X12_195 ka0.1 (ct_E12 ka0) rfl rfl rfl (Nat.le_of_ble_eq_true rfl) ⟨rfl, rfl, Nat.le_of_ble_eq_true rfl, Nat.le_of_ble_eq_true rfl⟩ ⟨Nat.zero_le _, Nat.zero_le _⟩ dX12_accumulator_7 (fun r3 m2 h => ?_)
  refine ct_if_eq C dX12_accumulator_10 17 (by decide) (fun hc4 => ?_) (fun hc4 => ?_)
  · have h := h.1 hc4
    refine ct_aload_n C dX12_accumulator_17 0 rfl rfl ?_
    refine gf_X12_32 C dX12_accumulator_18 ka0 ?_
    have hk5 := ct_t12_10 ka0
    refine ct_iload_n C dX12_accumulator_21 1 rfl rfl ?_
    refine ct_callSi (As := [.int p1]) C (c_X12_at l D cy o  h) kv_X12_88 rfl rfl (Nat.le_of_ble_eq_true rfl) ⟨rfl, rfl, Nat.le_of_ble_eq_true rfl, Nat.le_of_ble_eq_true rfl⟩ ⟨Nat.zero_le _, Nat.zero_le _⟩ dX12_accumulator_22 (fun r7 m6 h => ?_)
    refine ct_iconst C dX12_accumulator_25 (2 : Int32) (by decide) ?_
    refine ct_iadd C dX12_accumulator_26 ?_
    refine ct_iald C dX12_accumulator_27 hk5 h.1 ?_
    have h := h.2
    refine ct_bipush C dX12_accumulator_28 (100 : Int32) (by decide) ?_
    refine ct_iadd C dX12_accumulator_30 ?_
    exact ct_ireti C hr hlk dX12_accumulator_31 h
  · have h := h.2 hc4
    refine ct_iconst C dX12_accumulator_13 (-1 : Int32) (by decide) ?_
    refine ct_goto C dX12_accumulator_14 31 (by decide) ?_
    exact ct_ireti C hr hlk dX12_accumulator_31 h
abbrev rm_X12_seenValue : Room := { frames := 2, cells := 0, slots := 0, locals := 46 }
set_option maxHeartbeats 4000000 in
set_option maxRecDepth 100000 in
theorem kb_X12_seenValue_20 {p : Program} {l : Launch} {e : Env} {s : State} {mth : MethodId} {args : Array Value} {below : List Frame} {meth : Method} {c : Code} {D : va_G} {cy : Nat → ClassId} {o : Nat} {Q : Int32 → ct_M → Prop} {m : ct_M} (C : ct_Cx p s mth c cX12_seenValue 3 args RX12 D cy) (hr : meth.sig.returnType = (some .int)) (hlk : meth.locks = false) (h : wb_X12_seenValue_20 Q  m) : ct_J p l e rm_X12_seenValue s mth args below meth c 3 D cy o ct_NN 0 0 (MQ below (va_Qi Q (ct_P D cy o ct_NN) (fun q => o ≤ q)) args s 0 0 (fun q => o ≤ q)) m 20 [] [] := by
  unfold wb_X12_seenValue_20 at h
  refine ct_iconst C dX12_seenValue_20 (-1 : Int32) (by decide) ?_
  refine ct_goto C dX12_seenValue_21 36 (by decide) ?_
  exact ct_ireti C hr hlk dX12_seenValue_36 h
set_option maxHeartbeats 4000000 in
set_option maxRecDepth 100000 in
theorem c_X12_seenValue (l : Launch) (D : va_G) (cy : Nat → ClassId) (o : Nat) {a0 : Nat} {p1 : Int32} {p2 : Int32} {Q : Int32 → ct_M → Prop} {m : ct_M} (ka0 : ct_K 12 a0) (h : wp_X12_seenValue a0 p1 p2 Q m) : Met l yX12_seenValue (ct_ws yX12_seenValue cX12_seenValue 3 (some .int)) rm_X12_seenValue (va_Pc [.ref (o + a0), .int p1, .int p2] (ct_P D cy o ct_NN m)) (va_Qi Q (ct_P D cy o ct_NN) (fun q => o ≤ q)) 0 0 (fun q => o ≤ q) := by
  refine ct_met l D cy o ct_NN m (by decide) (Nat.le_of_ble_eq_true rfl) (fun p e s mth args below meth c C hr hlk => ?_)
  refine ct_sub [0, 1, 2] [(0, .ref (o + a0)), (1, .int p1), (2, .int p2)] rfl ?_
  unfold wp_X12_seenValue at h
  refine ct_aload_n C dX12_seenValue_0 0 rfl rfl ?_
  refine ct_iconst C dX12_seenValue_1 (0 : Int32) (by decide) ?_
  refine pf_X12_85 C dX12_seenValue_2 ka0 ?_
  refine ct_mem (fun m1 em1 => ?_)
  have h := h m1 em1
  refine ct_aload_n C dX12_seenValue_5 0 rfl rfl ?_
  refine ct_iload_n C dX12_seenValue_6 1 rfl rfl ?_
  refine ct_callVi (As := [.int p1]) (T := TX12) C (c_X12_noThread l D cy o ka0 h) kv_X12_195 ka0.1 (ct_E12 ka0) rfl rfl rfl (Nat.le_of_ble_eq_true rfl) ⟨rfl, rfl, Nat.le_of_ble_eq_true rfl, Nat.le_of_ble_eq_true rfl⟩ ⟨Nat.zero_le _, Nat.zero_le _⟩ dX12_seenValue_7 (fun r3 m2 h => ?_)
  refine ct_if_ne C dX12_seenValue_10 20 (by decide) (fun hc4 => ?_) (fun hc4 => ?_)
  · have h := h.1 hc4
    refine ct_sub [] [] rfl ?_
    exact kb_X12_seenValue_20 C hr hlk   h
  · have h := h.2 hc4
    refine ct_iload_n C dX12_seenValue_13 2 rfl rfl ?_
    refine ct_callSi (As := [.int p2]) C (c_X12_noCell l D cy o  h) kv_X12_192 rfl rfl (Nat.le_of_ble_eq_true rfl) ⟨rfl, rfl, Nat.le_of_ble_eq_true rfl, Nat.le_of_ble_eq_true rfl⟩ ⟨Nat.zero_le _, Nat.zero_le _⟩ dX12_seenValue_14 (fun r6 m5 h => ?_)
    refine ct_if_eq C dX12_seenValue_17 24 (by decide) (fun hc7 => ?_) (fun hc7 => ?_)
    · have h := h.1 hc7
      refine ct_aload_n C dX12_seenValue_24 0 rfl rfl ?_
      refine gf_X12_32 C dX12_seenValue_25 ka0 ?_
      have hk8 := ct_t12_10 ka0
      refine ct_iload_n C dX12_seenValue_28 1 rfl rfl ?_
      refine ct_iload_n C dX12_seenValue_29 2 rfl rfl ?_
      refine ct_callSi (As := [.ref (o + (a0 + 7)), .int p1, .int p2]) C (c_X12_sees l D cy o hk8 h) kv_X12_112 rfl rfl (Nat.le_of_ble_eq_true rfl) ⟨rfl, rfl, Nat.le_of_ble_eq_true rfl, Nat.le_of_ble_eq_true rfl⟩ ⟨Nat.zero_le _, Nat.zero_le _⟩ dX12_seenValue_30 (fun r10 m9 h => ?_)
      refine ct_bipush C dX12_seenValue_33 (100 : Int32) (by decide) ?_
      refine ct_iadd C dX12_seenValue_35 ?_
      exact ct_ireti C hr hlk dX12_seenValue_36 h
    · have h := h.2 hc7
      refine ct_sub [] [] rfl ?_
      exact kb_X12_seenValue_20 C hr hlk   h
abbrev rm_X12_readSet : Room := { frames := 2, cells := 0, slots := 0, locals := 46 }
set_option maxHeartbeats 4000000 in
set_option maxRecDepth 100000 in
theorem kb_X12_readSet_49 {p : Program} {l : Launch} {e : Env} {s : State} {mth : MethodId} {args : Array Value} {below : List Frame} {meth : Method} {c : Code} {D : va_G} {cy : Nat → ClassId} {o : Nat} {Q : Int32 → ct_M → Prop} {K19 : Nat → Int32 → Int32 → Int32 → ct_M → Prop} {v0 : Nat} {v1 : Int32} {v3 : Int32} {s0 : Int32} {s1 : Int32} {m : ct_M} (C : ct_Cx p s mth c cX12_readSet 4 args RX12 D cy) (hr : meth.sig.returnType = (some .int)) (hlk : meth.locks = false) (hK19 : ∀ (v0 : Nat) (v1 : Int32) (v2 : Int32) (v3 : Int32) (m : ct_M), ct_K 12 v0 → K19 v0 v1 v2 v3 m → ct_J p l e rm_X12_readSet s mth args below meth c 4 D cy o ct_NN 0 0 (MQ below (va_Qi Q (ct_P D cy o ct_NN) (fun q => o ≤ q)) args s 0 0 (fun q => o ≤ q)) m 19 [(0, .ref (o + v0)), (1, .int v1), (2, .int v2), (3, .int v3)] []) (kv0 : ct_K 12 v0) (h : wb_X12_readSet_49 K19 Q v0 v1 v3 s0 s1 m) : ct_J p l e rm_X12_readSet s mth args below meth c 4 D cy o ct_NN 0 0 (MQ below (va_Qi Q (ct_P D cy o ct_NN) (fun q => o ≤ q)) args s 0 0 (fun q => o ≤ q)) m 49 [(0, .ref (o + v0)), (1, .int v1), (3, .int v3)] [.int s0, .int s1] := by
  unfold wb_X12_readSet_49 at h
  refine ct_ior C dX12_readSet_49 ?_
  refine ct_topi (fun x1 ex1 => ?_)
  have h := h x1 ex1
  refine ct_istore_n C dX12_readSet_50 [(2, .int x1), (0, .ref (o + v0)), (1, .int v1), (3, .int v3)] rfl (by decide) rfl ?_
  obtain ⟨x2, ex2⟩ : ∃ z : Int32, z = v3 + (1 : Int32) := ⟨_, rfl⟩
  have h := h x2 ex2
  refine ct_iinc (k := 3) (v := x2) C dX12_readSet_51 [(3, .int x2), (2, .int x1), (0, .ref (o + v0)), (1, .int v1)] rfl (by rw [ex2]; rfl) (by decide) rfl ?_
  refine ct_goto C dX12_readSet_54 19 (by decide) ?_
  refine ct_sub [2, 3, 1, 0] [(0, .ref (o + v0)), (1, .int v1), (2, .int x1), (3, .int x2)] rfl ?_
  exact hK19 _ _ _ _ _ kv0 h
set_option maxHeartbeats 4000000 in
set_option maxRecDepth 100000 in
theorem kb_X12_readSet_19 {p : Program} {l : Launch} {e : Env} {s : State} {mth : MethodId} {args : Array Value} {below : List Frame} {meth : Method} {c : Code} {D : va_G} {cy : Nat → ClassId} {o : Nat} {Q : Int32 → ct_M → Prop} (C : ct_Cx p s mth c cX12_readSet 4 args RX12 D cy) (hr : meth.sig.returnType = (some .int)) (hlk : meth.locks = false) : ∀ (n : Nat) (v0 : Nat) (v1 : Int32) (v2 : Int32) (v3 : Int32) (m : ct_M) (kv0 : ct_K 12 v0), wb_X12_readSet_19 Q n v0 v1 v2 v3 m → ct_J p l e rm_X12_readSet s mth args below meth c 4 D cy o ct_NN 0 0 (MQ below (va_Qi Q (ct_P D cy o ct_NN) (fun q => o ≤ q)) args s 0 0 (fun q => o ≤ q)) m 19 [(0, .ref (o + v0)), (1, .int v1), (2, .int v2), (3, .int v3)] [] := by
  intro n
  induction n with
  | zero => intro v0 v1 v2 v3 m kv0 h; exact h.elim
  | succ n ih =>
    intro v0 v1 v2 v3 m kv0 h
    unfold wb_X12_readSet_19 at h
    refine ct_iload_n C dX12_readSet_19 3 rfl rfl ?_
    refine ct_bipush C dX12_readSet_20 (6 : Int32) (by decide) ?_
    refine ct_icmp_ge C dX12_readSet_22 57 (by decide) (fun hc1 => ?_) (fun hc1 => ?_)
    · have h := h.1 hc1
      refine ct_iload_n C dX12_readSet_57 2 rfl rfl ?_
      exact ct_ireti C hr hlk dX12_readSet_58 h
    · have h := h.2 hc1
      refine ct_iload_n C dX12_readSet_25 2 rfl rfl ?_
      refine ct_aload_n C dX12_readSet_26 0 rfl rfl ?_
      refine gf_X12_32 C dX12_readSet_27 kv0 ?_
      have hk2 := ct_t12_10 kv0
      refine ct_iload_n C dX12_readSet_30 1 rfl rfl ?_
      refine ct_callSi (As := [.int v1]) C (c_X12_at l D cy o  h) kv_X12_88 rfl rfl (Nat.le_of_ble_eq_true rfl) ⟨rfl, rfl, Nat.le_of_ble_eq_true rfl, Nat.le_of_ble_eq_true rfl⟩ ⟨Nat.zero_le _, Nat.zero_le _⟩ dX12_readSet_31 (fun r4 m3 h => ?_)
      refine ct_iconst C dX12_readSet_34 (3 : Int32) (by decide) ?_
      refine ct_iadd C dX12_readSet_35 ?_
      refine ct_iload_n C dX12_readSet_36 3 rfl rfl ?_
      refine ct_iadd C dX12_readSet_37 ?_
      refine ct_iald C dX12_readSet_38 hk2 h.1 ?_
      have h := h.2
      refine ct_if_le C dX12_readSet_39 48 (by decide) (fun hc5 => ?_) (fun hc5 => ?_)
      · have h := h.1 hc5
        refine ct_iconst C dX12_readSet_48 (0 : Int32) (by decide) ?_
        refine ct_sub [0, 1, 3] [(0, .ref (o + v0)), (1, .int v1), (3, .int v3)] rfl ?_
        exact kb_X12_readSet_49 C hr hlk ih kv0 h
      · have h := h.2 hc5
        refine ct_iconst C dX12_readSet_42 (1 : Int32) (by decide) ?_
        refine ct_iload_n C dX12_readSet_43 3 rfl rfl ?_
        refine ct_ishl C dX12_readSet_44 ?_
        refine ct_goto C dX12_readSet_45 49 (by decide) ?_
        refine ct_sub [0, 1, 3] [(0, .ref (o + v0)), (1, .int v1), (3, .int v3)] rfl ?_
        exact kb_X12_readSet_49 C hr hlk ih kv0 h
set_option maxHeartbeats 4000000 in
set_option maxRecDepth 100000 in
theorem c_X12_readSet (l : Launch) (D : va_G) (cy : Nat → ClassId) (o : Nat) {a0 : Nat} {p1 : Int32} {Q : Int32 → ct_M → Prop} {m : ct_M} (ka0 : ct_K 12 a0) (h : wp_X12_readSet a0 p1 Q m) : Met l yX12_readSet (ct_ws yX12_readSet cX12_readSet 4 (some .int)) rm_X12_readSet (va_Pc [.ref (o + a0), .int p1] (ct_P D cy o ct_NN m)) (va_Qi Q (ct_P D cy o ct_NN) (fun q => o ≤ q)) 0 0 (fun q => o ≤ q) := by
  refine ct_met l D cy o ct_NN m (by decide) (Nat.le_of_ble_eq_true rfl) (fun p e s mth args below meth c C hr hlk => ?_)
  refine ct_sub [0, 1] [(0, .ref (o + a0)), (1, .int p1)] rfl ?_
  unfold wp_X12_readSet at h
  refine ct_aload_n C dX12_readSet_0 0 rfl rfl ?_
  refine ct_iconst C dX12_readSet_1 (0 : Int32) (by decide) ?_
  refine pf_X12_85 C dX12_readSet_2 ka0 ?_
  refine ct_mem (fun m1 em1 => ?_)
  have h := h m1 em1
  refine ct_aload_n C dX12_readSet_5 0 rfl rfl ?_
  refine ct_iload_n C dX12_readSet_6 1 rfl rfl ?_
  refine ct_callVi (As := [.int p1]) (T := TX12) C (c_X12_noThread l D cy o ka0 h) kv_X12_195 ka0.1 (ct_E12 ka0) rfl rfl rfl (Nat.le_of_ble_eq_true rfl) ⟨rfl, rfl, Nat.le_of_ble_eq_true rfl, Nat.le_of_ble_eq_true rfl⟩ ⟨Nat.zero_le _, Nat.zero_le _⟩ dX12_readSet_7 (fun r3 m2 h => ?_)
  refine ct_if_eq C dX12_readSet_10 15 (by decide) (fun hc4 => ?_) (fun hc4 => ?_)
  · have h := h.1 hc4
    refine ct_iconst C dX12_readSet_15 (0 : Int32) (by decide) ?_
    refine ct_istore_n C dX12_readSet_16 [(2, .int (0 : Int32)), (0, .ref (o + a0)), (1, .int p1)] rfl (by decide) rfl ?_
    refine ct_iconst C dX12_readSet_17 (0 : Int32) (by decide) ?_
    refine ct_istore_n C dX12_readSet_18 [(3, .int (0 : Int32)), (2, .int (0 : Int32)), (0, .ref (o + a0)), (1, .int p1)] rfl (by decide) rfl ?_
    refine ct_sub [2, 3, 1, 0] [(0, .ref (o + a0)), (1, .int p1), (2, .int (0 : Int32)), (3, .int (0 : Int32))] rfl ?_
    obtain ⟨n5, h⟩ := h
    exact kb_X12_readSet_19 C hr hlk  n5 _ _ _ _ _ ka0 h
  · have h := h.2 hc4
    refine ct_iconst C dX12_readSet_13 (-1 : Int32) (by decide) ?_
    exact ct_ireti C hr hlk dX12_readSet_14 h
abbrev rm_X12_writeSet : Room := { frames := 2, cells := 0, slots := 0, locals := 46 }
set_option maxHeartbeats 4000000 in
set_option maxRecDepth 100000 in
theorem c_X12_writeSet (l : Launch) (D : va_G) (cy : Nat → ClassId) (o : Nat) {a0 : Nat} {p1 : Int32} {Q : Int32 → ct_M → Prop} {m : ct_M} (ka0 : ct_K 12 a0) (h : wp_X12_writeSet a0 p1 Q m) : Met l yX12_writeSet (ct_ws yX12_writeSet cX12_writeSet 2 (some .int)) rm_X12_writeSet (va_Pc [.ref (o + a0), .int p1] (ct_P D cy o ct_NN m)) (va_Qi Q (ct_P D cy o ct_NN) (fun q => o ≤ q)) 0 0 (fun q => o ≤ q) := by
  refine ct_met l D cy o ct_NN m (by decide) (Nat.le_of_ble_eq_true rfl) (fun p e s mth args below meth c C hr hlk => ?_)
  refine ct_sub [0, 1] [(0, .ref (o + a0)), (1, .int p1)] rfl ?_
  unfold wp_X12_writeSet at h
  refine ct_aload_n C dX12_writeSet_0 0 rfl rfl ?_
  refine ct_iconst C dX12_writeSet_1 (0 : Int32) (by decide) ?_
  refine pf_X12_85 C dX12_writeSet_2 ka0 ?_
  refine ct_mem (fun m1 em1 => ?_)
  have h := h m1 em1
  refine ct_aload_n C dX12_writeSet_5 0 rfl rfl ?_
  refine ct_iload_n C dX12_writeSet_6 1 rfl rfl ?_
  refine ct_callVi (As := [.int p1]) (T := TX12) C (c_X12_noThread l D cy o ka0 h) kv_X12_195 ka0.1 (ct_E12 ka0) rfl rfl rfl (Nat.le_of_ble_eq_true rfl) ⟨rfl, rfl, Nat.le_of_ble_eq_true rfl, Nat.le_of_ble_eq_true rfl⟩ ⟨Nat.zero_le _, Nat.zero_le _⟩ dX12_writeSet_7 (fun r3 m2 h => ?_)
  refine ct_if_eq C dX12_writeSet_10 17 (by decide) (fun hc4 => ?_) (fun hc4 => ?_)
  · have h := h.1 hc4
    refine ct_aload_n C dX12_writeSet_17 0 rfl rfl ?_
    refine gf_X12_32 C dX12_writeSet_18 ka0 ?_
    have hk5 := ct_t12_10 ka0
    refine ct_iload_n C dX12_writeSet_21 1 rfl rfl ?_
    refine ct_callSi (As := [.int p1]) C (c_X12_at l D cy o  h) kv_X12_88 rfl rfl (Nat.le_of_ble_eq_true rfl) ⟨rfl, rfl, Nat.le_of_ble_eq_true rfl, Nat.le_of_ble_eq_true rfl⟩ ⟨Nat.zero_le _, Nat.zero_le _⟩ dX12_writeSet_22 (fun r7 m6 h => ?_)
    refine ct_bipush C dX12_writeSet_25 (9 : Int32) (by decide) ?_
    refine ct_iadd C dX12_writeSet_27 ?_
    refine ct_iald C dX12_writeSet_28 hk5 h.1 ?_
    have h := h.2
    exact ct_ireti C hr hlk dX12_writeSet_29 h
  · have h := h.2 hc4
    refine ct_iconst C dX12_writeSet_13 (-1 : Int32) (by decide) ?_
    refine ct_goto C dX12_writeSet_14 29 (by decide) ?_
    exact ct_ireti C hr hlk dX12_writeSet_29 h
abbrev rm_X12_openBlocks : Room := { frames := 2, cells := 0, slots := 0, locals := 46 }
set_option maxHeartbeats 4000000 in
set_option maxRecDepth 100000 in
theorem c_X12_openBlocks (l : Launch) (D : va_G) (cy : Nat → ClassId) (o : Nat) {a0 : Nat} {p1 : Int32} {Q : Int32 → ct_M → Prop} {m : ct_M} (ka0 : ct_K 12 a0) (h : wp_X12_openBlocks a0 p1 Q m) : Met l yX12_openBlocks (ct_ws yX12_openBlocks cX12_openBlocks 2 (some .int)) rm_X12_openBlocks (va_Pc [.ref (o + a0), .int p1] (ct_P D cy o ct_NN m)) (va_Qi Q (ct_P D cy o ct_NN) (fun q => o ≤ q)) 0 0 (fun q => o ≤ q) := by
  refine ct_met l D cy o ct_NN m (by decide) (Nat.le_of_ble_eq_true rfl) (fun p e s mth args below meth c C hr hlk => ?_)
  refine ct_sub [0, 1] [(0, .ref (o + a0)), (1, .int p1)] rfl ?_
  unfold wp_X12_openBlocks at h
  refine ct_aload_n C dX12_openBlocks_0 0 rfl rfl ?_
  refine ct_iconst C dX12_openBlocks_1 (0 : Int32) (by decide) ?_
  refine pf_X12_85 C dX12_openBlocks_2 ka0 ?_
  refine ct_mem (fun m1 em1 => ?_)
  have h := h m1 em1
  refine ct_aload_n C dX12_openBlocks_5 0 rfl rfl ?_
  refine ct_iload_n C dX12_openBlocks_6 1 rfl rfl ?_
  refine ct_callVi (As := [.int p1]) (T := TX12) C (c_X12_noThread l D cy o ka0 h) kv_X12_195 ka0.1 (ct_E12 ka0) rfl rfl rfl (Nat.le_of_ble_eq_true rfl) ⟨rfl, rfl, Nat.le_of_ble_eq_true rfl, Nat.le_of_ble_eq_true rfl⟩ ⟨Nat.zero_le _, Nat.zero_le _⟩ dX12_openBlocks_7 (fun r3 m2 h => ?_)
  refine ct_if_eq C dX12_openBlocks_10 17 (by decide) (fun hc4 => ?_) (fun hc4 => ?_)
  · have h := h.1 hc4
    refine ct_aload_n C dX12_openBlocks_17 0 rfl rfl ?_
    refine gf_X12_32 C dX12_openBlocks_18 ka0 ?_
    have hk5 := ct_t12_10 ka0
    refine ct_iload_n C dX12_openBlocks_21 1 rfl rfl ?_
    refine ct_callSi (As := [.int p1]) C (c_X12_at l D cy o  h) kv_X12_88 rfl rfl (Nat.le_of_ble_eq_true rfl) ⟨rfl, rfl, Nat.le_of_ble_eq_true rfl, Nat.le_of_ble_eq_true rfl⟩ ⟨Nat.zero_le _, Nat.zero_le _⟩ dX12_openBlocks_22 (fun r7 m6 h => ?_)
    refine ct_bipush C dX12_openBlocks_25 (16 : Int32) (by decide) ?_
    refine ct_iadd C dX12_openBlocks_27 ?_
    refine ct_iald C dX12_openBlocks_28 hk5 h.1 ?_
    have h := h.2
    exact ct_ireti C hr hlk dX12_openBlocks_29 h
  · have h := h.2 hc4
    refine ct_iconst C dX12_openBlocks_13 (-1 : Int32) (by decide) ?_
    refine ct_goto C dX12_openBlocks_14 29 (by decide) ?_
    exact ct_ireti C hr hlk dX12_openBlocks_29 h
abbrev rm_X12_runsLeft : Room := { frames := 2, cells := 0, slots := 0, locals := 46 }
set_option maxHeartbeats 4000000 in
set_option maxRecDepth 100000 in
theorem c_X12_runsLeft (l : Launch) (D : va_G) (cy : Nat → ClassId) (o : Nat) {a0 : Nat} {p1 : Int32} {Q : Int32 → ct_M → Prop} {m : ct_M} (ka0 : ct_K 12 a0) (h : wp_X12_runsLeft a0 p1 Q m) : Met l yX12_runsLeft (ct_ws yX12_runsLeft cX12_runsLeft 2 (some .int)) rm_X12_runsLeft (va_Pc [.ref (o + a0), .int p1] (ct_P D cy o ct_NN m)) (va_Qi Q (ct_P D cy o ct_NN) (fun q => o ≤ q)) 0 0 (fun q => o ≤ q) := by
  refine ct_met l D cy o ct_NN m (by decide) (Nat.le_of_ble_eq_true rfl) (fun p e s mth args below meth c C hr hlk => ?_)
  refine ct_sub [0, 1] [(0, .ref (o + a0)), (1, .int p1)] rfl ?_
  unfold wp_X12_runsLeft at h
  refine ct_aload_n C dX12_runsLeft_0 0 rfl rfl ?_
  refine ct_iconst C dX12_runsLeft_1 (0 : Int32) (by decide) ?_
  refine pf_X12_85 C dX12_runsLeft_2 ka0 ?_
  refine ct_mem (fun m1 em1 => ?_)
  have h := h m1 em1
  refine ct_aload_n C dX12_runsLeft_5 0 rfl rfl ?_
  refine ct_iload_n C dX12_runsLeft_6 1 rfl rfl ?_
  refine ct_callVi (As := [.int p1]) (T := TX12) C (c_X12_noThread l D cy o ka0 h) kv_X12_195 ka0.1 (ct_E12 ka0) rfl rfl rfl (Nat.le_of_ble_eq_true rfl) ⟨rfl, rfl, Nat.le_of_ble_eq_true rfl, Nat.le_of_ble_eq_true rfl⟩ ⟨Nat.zero_le _, Nat.zero_le _⟩ dX12_runsLeft_7 (fun r3 m2 h => ?_)
  refine ct_if_eq C dX12_runsLeft_10 17 (by decide) (fun hc4 => ?_) (fun hc4 => ?_)
  · have h := h.1 hc4
    refine ct_aload_n C dX12_runsLeft_17 0 rfl rfl ?_
    refine gf_X12_32 C dX12_runsLeft_18 ka0 ?_
    have hk5 := ct_t12_10 ka0
    refine ct_iload_n C dX12_runsLeft_21 1 rfl rfl ?_
    refine ct_callSi (As := [.int p1]) C (c_X12_at l D cy o  h) kv_X12_88 rfl rfl (Nat.le_of_ble_eq_true rfl) ⟨rfl, rfl, Nat.le_of_ble_eq_true rfl, Nat.le_of_ble_eq_true rfl⟩ ⟨Nat.zero_le _, Nat.zero_le _⟩ dX12_runsLeft_22 (fun r7 m6 h => ?_)
    refine ct_bipush C dX12_runsLeft_25 (47 : Int32) (by decide) ?_
    refine ct_iadd C dX12_runsLeft_27 ?_
    refine ct_iald C dX12_runsLeft_28 hk5 h.1 ?_
    have h := h.2
    exact ct_ireti C hr hlk dX12_runsLeft_29 h
  · have h := h.2 hc4
    refine ct_iconst C dX12_runsLeft_13 (-1 : Int32) (by decide) ?_
    refine ct_goto C dX12_runsLeft_14 29 (by decide) ?_
    exact ct_ireti C hr hlk dX12_runsLeft_29 h
abbrev rm_X12_restarts : Room := { frames := 2, cells := 0, slots := 0, locals := 46 }
set_option maxHeartbeats 4000000 in
set_option maxRecDepth 100000 in
theorem c_X12_restarts (l : Launch) (D : va_G) (cy : Nat → ClassId) (o : Nat) {a0 : Nat} {p1 : Int32} {Q : Int32 → ct_M → Prop} {m : ct_M} (ka0 : ct_K 12 a0) (h : wp_X12_restarts a0 p1 Q m) : Met l yX12_restarts (ct_ws yX12_restarts cX12_restarts 2 (some .int)) rm_X12_restarts (va_Pc [.ref (o + a0), .int p1] (ct_P D cy o ct_NN m)) (va_Qi Q (ct_P D cy o ct_NN) (fun q => o ≤ q)) 0 0 (fun q => o ≤ q) := by
  refine ct_met l D cy o ct_NN m (by decide) (Nat.le_of_ble_eq_true rfl) (fun p e s mth args below meth c C hr hlk => ?_)
  refine ct_sub [0, 1] [(0, .ref (o + a0)), (1, .int p1)] rfl ?_
  unfold wp_X12_restarts at h
  refine ct_aload_n C dX12_restarts_0 0 rfl rfl ?_
  refine ct_iconst C dX12_restarts_1 (0 : Int32) (by decide) ?_
  refine pf_X12_85 C dX12_restarts_2 ka0 ?_
  refine ct_mem (fun m1 em1 => ?_)
  have h := h m1 em1
  refine ct_aload_n C dX12_restarts_5 0 rfl rfl ?_
  refine ct_iload_n C dX12_restarts_6 1 rfl rfl ?_
  refine ct_callVi (As := [.int p1]) (T := TX12) C (c_X12_noThread l D cy o ka0 h) kv_X12_195 ka0.1 (ct_E12 ka0) rfl rfl rfl (Nat.le_of_ble_eq_true rfl) ⟨rfl, rfl, Nat.le_of_ble_eq_true rfl, Nat.le_of_ble_eq_true rfl⟩ ⟨Nat.zero_le _, Nat.zero_le _⟩ dX12_restarts_7 (fun r3 m2 h => ?_)
  refine ct_if_eq C dX12_restarts_10 17 (by decide) (fun hc4 => ?_) (fun hc4 => ?_)
  · have h := h.1 hc4
    refine ct_aload_n C dX12_restarts_17 0 rfl rfl ?_
    refine gf_X12_32 C dX12_restarts_18 ka0 ?_
    have hk5 := ct_t12_10 ka0
    refine ct_iload_n C dX12_restarts_21 1 rfl rfl ?_
    refine ct_callSi (As := [.int p1]) C (c_X12_at l D cy o  h) kv_X12_88 rfl rfl (Nat.le_of_ble_eq_true rfl) ⟨rfl, rfl, Nat.le_of_ble_eq_true rfl, Nat.le_of_ble_eq_true rfl⟩ ⟨Nat.zero_le _, Nat.zero_le _⟩ dX12_restarts_22 (fun r7 m6 h => ?_)
    refine ct_bipush C dX12_restarts_25 (48 : Int32) (by decide) ?_
    refine ct_iadd C dX12_restarts_27 ?_
    refine ct_iald C dX12_restarts_28 hk5 h.1 ?_
    have h := h.2
    exact ct_ireti C hr hlk dX12_restarts_29 h
  · have h := h.2 hc4
    refine ct_iconst C dX12_restarts_13 (-1 : Int32) (by decide) ?_
    refine ct_goto C dX12_restarts_14 29 (by decide) ?_
    exact ct_ireti C hr hlk dX12_restarts_29 h
abbrev rm_X12_remember : Room := { frames := 0, cells := 0, slots := 0, locals := 0 }
set_option maxHeartbeats 4000000 in
set_option maxRecDepth 100000 in
theorem kb_X12_remember_52 {p : Program} {l : Launch} {e : Env} {s : State} {mth : MethodId} {args : Array Value} {below : List Frame} {meth : Method} {c : Code} {D : va_G} {cy : Nat → ClassId} {o : Nat} {Q : ct_M → Prop} (C : ct_Cx p s mth c cX12_remember 2 args RX12 D cy) (hr : meth.sig.returnType = none) (hlk : meth.locks = false) : ∀ (n : Nat) (v0 : Nat) (v1 : Int32) (m : ct_M) (kv0 : ct_K 12 v0), wb_X12_remember_52 Q n v0 v1 m → ct_J p l e rm_X12_remember s mth args below meth c 2 D cy o ct_NN 0 0 (MQ below (va_Qv Q (ct_P D cy o ct_NN) (fun q => o ≤ q)) args s 0 0 (fun q => o ≤ q)) m 52 [(0, .ref (o + v0)), (1, .int v1)] [] := by
  intro n
  induction n with
  | zero => intro v0 v1 m kv0 h; exact h.elim
  | succ n ih =>
    intro v0 v1 m kv0 h
    unfold wb_X12_remember_52 at h
    refine ct_iload_n C dX12_remember_52 1 rfl rfl ?_
    refine ct_sipush C dX12_remember_53 (172 : Int32) (by decide) ?_
    refine ct_icmp_ge C dX12_remember_56 86 (by decide) (fun hc1 => ?_) (fun hc1 => ?_)
    · have h := h.1 hc1
      refine ct_aload_n C dX12_remember_86 0 rfl rfl ?_
      refine ct_dup C dX12_remember_87 rfl ?_
      refine gf_X12_187 C dX12_remember_88 kv0 ?_
      refine ct_iconst C dX12_remember_91 (1 : Int32) (by decide) ?_
      refine ct_iadd C dX12_remember_92 ?_
      refine pf_X12_187 C dX12_remember_93 kv0 ?_
      refine ct_mem (fun m2 em2 => ?_)
      have h := h m2 em2
      exact ct_vret C hr hlk dX12_remember_96 h
    · have h := h.2 hc1
      refine ct_aload_n C dX12_remember_59 0 rfl rfl ?_
      refine gf_X12_38 C dX12_remember_60 kv0 ?_
      have hk3 := ct_t12_12 kv0
      refine ct_sipush C dX12_remember_63 (172 : Int32) (by decide) ?_
      refine ct_aload_n C dX12_remember_66 0 rfl rfl ?_
      refine gf_X12_187 C dX12_remember_67 kv0 ?_
      refine ct_imul C dX12_remember_70 ?_
      refine ct_iload_n C dX12_remember_71 1 rfl rfl ?_
      refine ct_iadd C dX12_remember_72 ?_
      refine ct_aload_n C dX12_remember_73 0 rfl rfl ?_
      refine gf_X12_32 C dX12_remember_74 kv0 ?_
      have hk4 := ct_t12_10 kv0
      refine ct_iload_n C dX12_remember_77 1 rfl rfl ?_
      refine ct_iald C dX12_remember_78 hk4 h.1 ?_
      have h := h.2
      refine ct_iast C dX12_remember_79 hk3 h.1 ?_
      have h := h.2
      refine ct_mem (fun m5 em5 => ?_)
      have h := h m5 em5
      obtain ⟨x6, ex6⟩ : ∃ z : Int32, z = v1 + (1 : Int32) := ⟨_, rfl⟩
      have h := h x6 ex6
      refine ct_iinc (k := 1) (v := x6) C dX12_remember_80 [(1, .int x6), (0, .ref (o + v0))] rfl (by rw [ex6]; rfl) (by decide) rfl ?_
      refine ct_goto C dX12_remember_83 52 (by decide) ?_
      refine ct_sub [1, 0] [(0, .ref (o + v0)), (1, .int x6)] rfl ?_
      exact ih _ _ _ kv0 h
set_option maxHeartbeats 4000000 in
set_option maxRecDepth 100000 in
theorem kb_X12_remember_50 {p : Program} {l : Launch} {e : Env} {s : State} {mth : MethodId} {args : Array Value} {below : List Frame} {meth : Method} {c : Code} {D : va_G} {cy : Nat → ClassId} {o : Nat} {Q : ct_M → Prop} {v0 : Nat} {m : ct_M} (C : ct_Cx p s mth c cX12_remember 2 args RX12 D cy) (hr : meth.sig.returnType = none) (hlk : meth.locks = false) (kv0 : ct_K 12 v0) (h : wb_X12_remember_50 Q v0 m) : ct_J p l e rm_X12_remember s mth args below meth c 2 D cy o ct_NN 0 0 (MQ below (va_Qv Q (ct_P D cy o ct_NN) (fun q => o ≤ q)) args s 0 0 (fun q => o ≤ q)) m 50 [(0, .ref (o + v0))] [] := by
  unfold wb_X12_remember_50 at h
  refine ct_iconst C dX12_remember_50 (0 : Int32) (by decide) ?_
  refine ct_istore_n C dX12_remember_51 [(1, .int (0 : Int32)), (0, .ref (o + v0))] rfl (by decide) rfl ?_
  refine ct_sub [1, 0] [(0, .ref (o + v0)), (1, .int (0 : Int32))] rfl ?_
  obtain ⟨n1, h⟩ := h
  exact kb_X12_remember_52 C hr hlk  n1 _ _ _ kv0 h
set_option maxHeartbeats 4000000 in
set_option maxRecDepth 100000 in
theorem kb_X12_remember_11 {p : Program} {l : Launch} {e : Env} {s : State} {mth : MethodId} {args : Array Value} {below : List Frame} {meth : Method} {c : Code} {D : va_G} {cy : Nat → ClassId} {o : Nat} {Q : ct_M → Prop} (C : ct_Cx p s mth c cX12_remember 2 args RX12 D cy) (hr : meth.sig.returnType = none) (hlk : meth.locks = false) : ∀ (n : Nat) (v0 : Nat) (v1 : Int32) (m : ct_M) (kv0 : ct_K 12 v0), wb_X12_remember_11 Q n v0 v1 m → ct_J p l e rm_X12_remember s mth args below meth c 2 D cy o ct_NN 0 0 (MQ below (va_Qv Q (ct_P D cy o ct_NN) (fun q => o ≤ q)) args s 0 0 (fun q => o ≤ q)) m 11 [(0, .ref (o + v0)), (1, .int v1)] [] := by
  intro n
  induction n with
  | zero => intro v0 v1 m kv0 h; exact h.elim
  | succ n ih =>
    intro v0 v1 m kv0 h
    unfold wb_X12_remember_11 at h
    refine ct_iload_n C dX12_remember_11 1 rfl rfl ?_
    refine ct_sipush C dX12_remember_12 (2236 : Int32) (by decide) ?_
    refine ct_icmp_ge C dX12_remember_15 40 (by decide) (fun hc1 => ?_) (fun hc1 => ?_)
    · have h := h.1 hc1
      refine ct_aload_n C dX12_remember_40 0 rfl rfl ?_
      refine ct_dup C dX12_remember_41 rfl ?_
      refine gf_X12_187 C dX12_remember_42 kv0 ?_
      refine ct_iconst C dX12_remember_45 (1 : Int32) (by decide) ?_
      refine ct_isub C dX12_remember_46 ?_
      refine pf_X12_187 C dX12_remember_47 kv0 ?_
      refine ct_mem (fun m2 em2 => ?_)
      have h := h m2 em2
      refine ct_sub [0] [(0, .ref (o + v0))] rfl ?_
      exact kb_X12_remember_50 C hr hlk  kv0 h
    · have h := h.2 hc1
      refine ct_aload_n C dX12_remember_18 0 rfl rfl ?_
      refine gf_X12_38 C dX12_remember_19 kv0 ?_
      have hk3 := ct_t12_12 kv0
      refine ct_iload_n C dX12_remember_22 1 rfl rfl ?_
      refine ct_aload_n C dX12_remember_23 0 rfl rfl ?_
      refine gf_X12_38 C dX12_remember_24 kv0 ?_
      refine ct_iload_n C dX12_remember_27 1 rfl rfl ?_
      refine ct_sipush C dX12_remember_28 (172 : Int32) (by decide) ?_
      refine ct_iadd C dX12_remember_31 ?_
      refine ct_iald C dX12_remember_32 hk3 h.1 ?_
      have h := h.2
      refine ct_iast C dX12_remember_33 hk3 h.1 ?_
      have h := h.2
      refine ct_mem (fun m4 em4 => ?_)
      have h := h m4 em4
      obtain ⟨x5, ex5⟩ : ∃ z : Int32, z = v1 + (1 : Int32) := ⟨_, rfl⟩
      have h := h x5 ex5
      refine ct_iinc (k := 1) (v := x5) C dX12_remember_34 [(1, .int x5), (0, .ref (o + v0))] rfl (by rw [ex5]; rfl) (by decide) rfl ?_
      refine ct_goto C dX12_remember_37 11 (by decide) ?_
      refine ct_sub [1, 0] [(0, .ref (o + v0)), (1, .int x5)] rfl ?_
      exact ih _ _ _ kv0 h
set_option maxHeartbeats 4000000 in
set_option maxRecDepth 100000 in
theorem c_X12_remember (l : Launch) (D : va_G) (cy : Nat → ClassId) (o : Nat) {a0 : Nat} {Q : ct_M → Prop} {m : ct_M} (ka0 : ct_K 12 a0) (h : wp_X12_remember a0 Q m) : Met l yX12_remember (ct_ws yX12_remember cX12_remember 2 none) rm_X12_remember (va_Pc [.ref (o + a0)] (ct_P D cy o ct_NN m)) (va_Qv Q (ct_P D cy o ct_NN) (fun q => o ≤ q)) 0 0 (fun q => o ≤ q) := by
  refine ct_met l D cy o ct_NN m (by decide) (Nat.le_of_ble_eq_true rfl) (fun p e s mth args below meth c C hr hlk => ?_)
  refine ct_sub [0] [(0, .ref (o + a0))] rfl ?_
  unfold wp_X12_remember at h
  refine ct_aload_n C dX12_remember_0 0 rfl rfl ?_
  refine gf_X12_187 C dX12_remember_1 ka0 ?_
  refine ct_bipush C dX12_remember_4 (14 : Int32) (by decide) ?_
  refine ct_icmp_ne C dX12_remember_6 50 (by decide) (fun hc1 => ?_) (fun hc1 => ?_)
  · have h := h.1 hc1
    refine ct_sub [0] [(0, .ref (o + a0))] rfl ?_
    exact kb_X12_remember_50 C hr hlk  ka0 h
  · have h := h.2 hc1
    refine ct_iconst C dX12_remember_9 (0 : Int32) (by decide) ?_
    refine ct_istore_n C dX12_remember_10 [(1, .int (0 : Int32)), (0, .ref (o + a0))] rfl (by decide) rfl ?_
    refine ct_sub [1, 0] [(0, .ref (o + a0)), (1, .int (0 : Int32))] rfl ?_
    obtain ⟨n2, h⟩ := h
    exact kb_X12_remember_11 C hr hlk  n2 _ _ _ ka0 h
abbrev rm_X12_step : Room := { frames := 7, cells := 0, slots := 0, locals := 157 }
set_option maxHeartbeats 4000000 in
set_option maxRecDepth 100000 in
theorem c_X12_step (l : Launch) (D : va_G) (cy : Nat → ClassId) (o : Nat) {a0 : Nat} {p1 : Int32} {Q : Int32 → ct_M → Prop} {m : ct_M} (ka0 : ct_K 12 a0) (h : wp_X12_step a0 p1 Q m) : Met l yX12_step (ct_ws yX12_step cX12_step 2 (some .int)) rm_X12_step (va_Pc [.ref (o + a0), .int p1] (ct_P D cy o ct_NN m)) (va_Qi Q (ct_P D cy o ct_NN) (fun q => o ≤ q)) 0 0 (fun q => o ≤ q) := by
  refine ct_met l D cy o ct_NN m (by decide) (Nat.le_of_ble_eq_true rfl) (fun p e s mth args below meth c C hr hlk => ?_)
  refine ct_sub [0, 1] [(0, .ref (o + a0)), (1, .int p1)] rfl ?_
  unfold wp_X12_step at h
  refine ct_aload_n C dX12_step_0 0 rfl rfl ?_
  refine ct_iconst C dX12_step_1 (0 : Int32) (by decide) ?_
  refine pf_X12_85 C dX12_step_2 ka0 ?_
  refine ct_mem (fun m1 em1 => ?_)
  have h := h m1 em1
  refine ct_aload_n C dX12_step_5 0 rfl rfl ?_
  refine ct_iload_n C dX12_step_6 1 rfl rfl ?_
  refine ct_callVi (As := [.int p1]) (T := TX12) C (c_X12_noThread l D cy o ka0 h) kv_X12_195 ka0.1 (ct_E12 ka0) rfl rfl rfl (Nat.le_of_ble_eq_true rfl) ⟨rfl, rfl, Nat.le_of_ble_eq_true rfl, Nat.le_of_ble_eq_true rfl⟩ ⟨Nat.zero_le _, Nat.zero_le _⟩ dX12_step_7 (fun r3 m2 h => ?_)
  refine ct_if_eq C dX12_step_10 15 (by decide) (fun hc4 => ?_) (fun hc4 => ?_)
  · have h := h.1 hc4
    refine ct_aload_n C dX12_step_15 0 rfl rfl ?_
    refine gf_X12_32 C dX12_step_16 ka0 ?_
    have hk5 := ct_t12_10 ka0
    refine ct_iload_n C dX12_step_19 1 rfl rfl ?_
    refine ct_callSi (As := [.int p1]) C (c_X12_at l D cy o  h) kv_X12_88 rfl rfl (Nat.le_of_ble_eq_true rfl) ⟨rfl, rfl, Nat.le_of_ble_eq_true rfl, Nat.le_of_ble_eq_true rfl⟩ ⟨Nat.zero_le _, Nat.zero_le _⟩ dX12_step_20 (fun r7 m6 h => ?_)
    refine ct_iconst C dX12_step_23 (0 : Int32) (by decide) ?_
    refine ct_iadd C dX12_step_24 ?_
    refine ct_iald C dX12_step_25 hk5 h.1 ?_
    have h := h.2
    refine ct_if_eq C dX12_step_26 32 (by decide) (fun hc8 => ?_) (fun hc8 => ?_)
    · have h := h.1 hc8
      refine ct_aload_n C dX12_step_32 0 rfl rfl ?_
      refine ct_callVv (As := []) (T := TX12) C (c_X12_remember l D cy o ka0 h) kv_X12_198 ka0.1 (ct_E12 ka0) rfl rfl rfl (Nat.le_of_ble_eq_true rfl) ⟨rfl, rfl, Nat.le_of_ble_eq_true rfl, Nat.le_of_ble_eq_true rfl⟩ ⟨Nat.zero_le _, Nat.zero_le _⟩ dX12_step_33 (fun m9 h => ?_)
      refine ct_aload_n C dX12_step_36 0 rfl rfl ?_
      refine ct_aload_n C dX12_step_37 0 rfl rfl ?_
      refine gf_X12_32 C dX12_step_38 ka0 ?_
      refine ct_iload_n C dX12_step_41 1 rfl rfl ?_
      refine ct_callVi (As := [.ref (o + (a0 + 7)), .int p1]) (T := TX12) C (c_X12_stepOn l D cy o ka0 hk5 h) kv_X12_201 ka0.1 (ct_E12 ka0) rfl rfl rfl (Nat.le_of_ble_eq_true rfl) ⟨rfl, rfl, Nat.le_of_ble_eq_true rfl, Nat.le_of_ble_eq_true rfl⟩ ⟨Nat.zero_le _, Nat.zero_le _⟩ dX12_step_42 (fun r11 m10 h => ?_)
      exact ct_ireti C hr hlk dX12_step_45 h
    · have h := h.2 hc8
      refine ct_bipush C dX12_step_29 (-3 : Int32) (by decide) ?_
      exact ct_ireti C hr hlk dX12_step_31 h
  · have h := h.2 hc4
    refine ct_iconst C dX12_step_13 (-1 : Int32) (by decide) ?_
    exact ct_ireti C hr hlk dX12_step_14 h
abbrev rm_X12_run : Room := { frames := 7, cells := 0, slots := 0, locals := 157 }
set_option maxHeartbeats 4000000 in
set_option maxRecDepth 100000 in
theorem kb_X12_run_55 {p : Program} {l : Launch} {e : Env} {s : State} {mth : MethodId} {args : Array Value} {below : List Frame} {meth : Method} {c : Code} {D : va_G} {cy : Nat → ClassId} {o : Nat} {Q : Int32 → ct_M → Prop} {K40 : Nat → Int32 → Int32 → Int32 → ct_M → Prop} {v0 : Nat} {v1 : Int32} {v2 : Int32} {m : ct_M} (C : ct_Cx p s mth c cX12_run 4 args RX12 D cy) (hr : meth.sig.returnType = (some .int)) (hlk : meth.locks = false) (hK40 : ∀ (v0 : Nat) (v1 : Int32) (v2 : Int32) (v3 : Int32) (m : ct_M), ct_K 12 v0 → K40 v0 v1 v2 v3 m → ct_J p l e rm_X12_run s mth args below meth c 4 D cy o ct_NN 0 0 (MQ below (va_Qi Q (ct_P D cy o ct_NN) (fun q => o ≤ q)) args s 0 0 (fun q => o ≤ q)) m 40 [(0, .ref (o + v0)), (1, .int v1), (2, .int v2), (3, .int v3)] []) (kv0 : ct_K 12 v0) (h : wb_X12_run_55 K40 Q v0 v1 v2 m) : ct_J p l e rm_X12_run s mth args below meth c 4 D cy o ct_NN 0 0 (MQ below (va_Qi Q (ct_P D cy o ct_NN) (fun q => o ≤ q)) args s 0 0 (fun q => o ≤ q)) m 55 [(0, .ref (o + v0)), (1, .int v1), (2, .int v2)] [] := by
  unfold wb_X12_run_55 at h
  refine ct_aload_n C dX12_run_55 0 rfl rfl ?_
  refine ct_aload_n C dX12_run_56 0 rfl rfl ?_
  refine gf_X12_32 C dX12_run_57 kv0 ?_
  have hk1 := ct_t12_10 kv0
  refine ct_iload_n C dX12_run_60 1 rfl rfl ?_
  refine ct_callVi (As := [.ref (o + (v0 + 7)), .int v1]) (T := TX12) C (c_X12_stepOn l D cy o kv0 hk1 h) kv_X12_201 kv0.1 (ct_E12 kv0) rfl rfl rfl (Nat.le_of_ble_eq_true rfl) ⟨rfl, rfl, Nat.le_of_ble_eq_true rfl, Nat.le_of_ble_eq_true rfl⟩ ⟨Nat.zero_le _, Nat.zero_le _⟩ dX12_run_61 (fun r3 m2 h => ?_)
  refine ct_istore_n C dX12_run_64 [(3, .int r3), (0, .ref (o + v0)), (1, .int v1), (2, .int v2)] rfl (by decide) rfl ?_
  obtain ⟨x4, ex4⟩ : ∃ z : Int32, z = v2 + (1 : Int32) := ⟨_, rfl⟩
  have h := h x4 ex4
  refine ct_iinc (k := 3) (v := x4) C dX12_run_65 [(2, .int x4), (3, .int r3), (0, .ref (o + v0)), (1, .int v1)] rfl (by rw [ex4]; rfl) (by decide) rfl ?_
  refine ct_goto C dX12_run_68 40 (by decide) ?_
  refine ct_sub [2, 3, 0, 1] [(0, .ref (o + v0)), (1, .int v1), (2, .int x4), (3, .int r3)] rfl ?_
  exact hK40 _ _ _ _ _ kv0 h
set_option maxHeartbeats 4000000 in
set_option maxRecDepth 100000 in
theorem kb_X12_run_40 {p : Program} {l : Launch} {e : Env} {s : State} {mth : MethodId} {args : Array Value} {below : List Frame} {meth : Method} {c : Code} {D : va_G} {cy : Nat → ClassId} {o : Nat} {Q : Int32 → ct_M → Prop} (C : ct_Cx p s mth c cX12_run 4 args RX12 D cy) (hr : meth.sig.returnType = (some .int)) (hlk : meth.locks = false) : ∀ (n : Nat) (v0 : Nat) (v1 : Int32) (v2 : Int32) (v3 : Int32) (m : ct_M) (kv0 : ct_K 12 v0), wb_X12_run_40 Q n v0 v1 v2 v3 m → ct_J p l e rm_X12_run s mth args below meth c 4 D cy o ct_NN 0 0 (MQ below (va_Qi Q (ct_P D cy o ct_NN) (fun q => o ≤ q)) args s 0 0 (fun q => o ≤ q)) m 40 [(0, .ref (o + v0)), (1, .int v1), (2, .int v2), (3, .int v3)] [] := by
  intro n
  induction n with
  | zero => intro v0 v1 v2 v3 m kv0 h; exact h.elim
  | succ n ih =>
    intro v0 v1 v2 v3 m kv0 h
    unfold wb_X12_run_40 at h
    refine ct_iload_n C dX12_run_40 2 rfl rfl ?_
    refine ct_bipush C dX12_run_41 (60 : Int32) (by decide) ?_
    refine ct_icmp_ge C dX12_run_43 71 (by decide) (fun hc1 => ?_) (fun hc1 => ?_)
    · have h := h.1 hc1
      refine ct_iload_n C dX12_run_71 2 rfl rfl ?_
      exact ct_ireti C hr hlk dX12_run_72 h
    · have h := h.2 hc1
      refine ct_iload_n C dX12_run_46 3 rfl rfl ?_
      refine ct_if_eq C dX12_run_47 55 (by decide) (fun hc2 => ?_) (fun hc2 => ?_)
      · have h := h.1 hc2
        refine ct_sub [0, 1, 2] [(0, .ref (o + v0)), (1, .int v1), (2, .int v2)] rfl ?_
        exact kb_X12_run_55 C hr hlk ih kv0 h
      · have h := h.2 hc2
        refine ct_iload_n C dX12_run_50 3 rfl rfl ?_
        refine ct_iconst C dX12_run_51 (2 : Int32) (by decide) ?_
        refine ct_icmp_ne C dX12_run_52 71 (by decide) (fun hc3 => ?_) (fun hc3 => ?_)
        · have h := h.1 hc3
          refine ct_iload_n C dX12_run_71 2 rfl rfl ?_
          exact ct_ireti C hr hlk dX12_run_72 h
        · have h := h.2 hc3
          refine ct_sub [0, 1, 2] [(0, .ref (o + v0)), (1, .int v1), (2, .int v2)] rfl ?_
          exact kb_X12_run_55 C hr hlk ih kv0 h
set_option maxHeartbeats 4000000 in
set_option maxRecDepth 100000 in
theorem c_X12_run (l : Launch) (D : va_G) (cy : Nat → ClassId) (o : Nat) {a0 : Nat} {p1 : Int32} {Q : Int32 → ct_M → Prop} {m : ct_M} (ka0 : ct_K 12 a0) (h : wp_X12_run a0 p1 Q m) : Met l yX12_run (ct_ws yX12_run cX12_run 4 (some .int)) rm_X12_run (va_Pc [.ref (o + a0), .int p1] (ct_P D cy o ct_NN m)) (va_Qi Q (ct_P D cy o ct_NN) (fun q => o ≤ q)) 0 0 (fun q => o ≤ q) := by
  refine ct_met l D cy o ct_NN m (by decide) (Nat.le_of_ble_eq_true rfl) (fun p e s mth args below meth c C hr hlk => ?_)
  refine ct_sub [0, 1] [(0, .ref (o + a0)), (1, .int p1)] rfl ?_
  unfold wp_X12_run at h
  refine ct_aload_n C dX12_run_0 0 rfl rfl ?_
  refine ct_iconst C dX12_run_1 (0 : Int32) (by decide) ?_
  refine pf_X12_85 C dX12_run_2 ka0 ?_
  refine ct_mem (fun m1 em1 => ?_)
  have h := h m1 em1
  refine ct_aload_n C dX12_run_5 0 rfl rfl ?_
  refine ct_iload_n C dX12_run_6 1 rfl rfl ?_
  refine ct_callVi (As := [.int p1]) (T := TX12) C (c_X12_noThread l D cy o ka0 h) kv_X12_195 ka0.1 (ct_E12 ka0) rfl rfl rfl (Nat.le_of_ble_eq_true rfl) ⟨rfl, rfl, Nat.le_of_ble_eq_true rfl, Nat.le_of_ble_eq_true rfl⟩ ⟨Nat.zero_le _, Nat.zero_le _⟩ dX12_run_7 (fun r3 m2 h => ?_)
  refine ct_if_eq C dX12_run_10 15 (by decide) (fun hc4 => ?_) (fun hc4 => ?_)
  · have h := h.1 hc4
    refine ct_aload_n C dX12_run_15 0 rfl rfl ?_
    refine gf_X12_32 C dX12_run_16 ka0 ?_
    have hk5 := ct_t12_10 ka0
    refine ct_iload_n C dX12_run_19 1 rfl rfl ?_
    refine ct_callSi (As := [.int p1]) C (c_X12_at l D cy o  h) kv_X12_88 rfl rfl (Nat.le_of_ble_eq_true rfl) ⟨rfl, rfl, Nat.le_of_ble_eq_true rfl, Nat.le_of_ble_eq_true rfl⟩ ⟨Nat.zero_le _, Nat.zero_le _⟩ dX12_run_20 (fun r7 m6 h => ?_)
    refine ct_iconst C dX12_run_23 (0 : Int32) (by decide) ?_
    refine ct_iadd C dX12_run_24 ?_
    refine ct_iald C dX12_run_25 hk5 h.1 ?_
    have h := h.2
    refine ct_if_eq C dX12_run_26 32 (by decide) (fun hc8 => ?_) (fun hc8 => ?_)
    · have h := h.1 hc8
      refine ct_aload_n C dX12_run_32 0 rfl rfl ?_
      refine ct_callVv (As := []) (T := TX12) C (c_X12_remember l D cy o ka0 h) kv_X12_198 ka0.1 (ct_E12 ka0) rfl rfl rfl (Nat.le_of_ble_eq_true rfl) ⟨rfl, rfl, Nat.le_of_ble_eq_true rfl, Nat.le_of_ble_eq_true rfl⟩ ⟨Nat.zero_le _, Nat.zero_le _⟩ dX12_run_33 (fun m9 h => ?_)
      refine ct_iconst C dX12_run_36 (0 : Int32) (by decide) ?_
      refine ct_istore_n C dX12_run_37 [(2, .int (0 : Int32)), (0, .ref (o + a0)), (1, .int p1)] rfl (by decide) rfl ?_
      refine ct_iconst C dX12_run_38 (0 : Int32) (by decide) ?_
      refine ct_istore_n C dX12_run_39 [(3, .int (0 : Int32)), (2, .int (0 : Int32)), (0, .ref (o + a0)), (1, .int p1)] rfl (by decide) rfl ?_
      refine ct_sub [2, 3, 1, 0] [(0, .ref (o + a0)), (1, .int p1), (2, .int (0 : Int32)), (3, .int (0 : Int32))] rfl ?_
      obtain ⟨n10, h⟩ := h
      exact kb_X12_run_40 C hr hlk  n10 _ _ _ _ _ ka0 h
    · have h := h.2 hc8
      refine ct_bipush C dX12_run_29 (-3 : Int32) (by decide) ?_
      exact ct_ireti C hr hlk dX12_run_31 h
  · have h := h.2 hc4
    refine ct_iconst C dX12_run_13 (-1 : Int32) (by decide) ?_
    exact ct_ireti C hr hlk dX12_run_14 h
abbrev rm_X12_setCell : Room := { frames := 5, cells := 0, slots := 0, locals := 108 }
set_option maxHeartbeats 4000000 in
set_option maxRecDepth 100000 in
theorem c_X12_setCell (l : Launch) (D : va_G) (cy : Nat → ClassId) (o : Nat) {a0 : Nat} {p1 : Int32} {p2 : Int32} {Q : Int32 → ct_M → Prop} {m : ct_M} (ka0 : ct_K 12 a0) (h : wp_X12_setCell a0 p1 p2 Q m) : Met l yX12_setCell (ct_ws yX12_setCell cX12_setCell 3 (some .int)) rm_X12_setCell (va_Pc [.ref (o + a0), .int p1, .int p2] (ct_P D cy o ct_NN m)) (va_Qi Q (ct_P D cy o ct_NN) (fun q => o ≤ q)) 0 0 (fun q => o ≤ q) := by
  refine ct_met l D cy o ct_NN m (by decide) (Nat.le_of_ble_eq_true rfl) (fun p e s mth args below meth c C hr hlk => ?_)
  refine ct_sub [0, 1, 2] [(0, .ref (o + a0)), (1, .int p1), (2, .int p2)] rfl ?_
  unfold wp_X12_setCell at h
  refine ct_aload_n C dX12_setCell_0 0 rfl rfl ?_
  refine ct_iconst C dX12_setCell_1 (0 : Int32) (by decide) ?_
  refine pf_X12_85 C dX12_setCell_2 ka0 ?_
  refine ct_mem (fun m1 em1 => ?_)
  have h := h m1 em1
  refine ct_iload_n C dX12_setCell_5 1 rfl rfl ?_
  refine ct_callSi (As := [.int p1]) C (c_X12_noCell l D cy o  h) kv_X12_192 rfl rfl (Nat.le_of_ble_eq_true rfl) ⟨rfl, rfl, Nat.le_of_ble_eq_true rfl, Nat.le_of_ble_eq_true rfl⟩ ⟨Nat.zero_le _, Nat.zero_le _⟩ dX12_setCell_6 (fun r3 m2 h => ?_)
  refine ct_if_eq C dX12_setCell_9 14 (by decide) (fun hc4 => ?_) (fun hc4 => ?_)
  · have h := h.1 hc4
    refine ct_iload_n C dX12_setCell_14 2 rfl rfl ?_
    refine ct_i2l C dX12_setCell_15 ?_
    refine ct_ldc2 C dX12_setCell_16 mw_555 ?_
    refine ct_ldc2 C dX12_setCell_19 mw_556 ?_
    refine ct_callSi (As := [.long p2.toInt64, .long (-99 : Int64), .long (99 : Int64)]) C (c_X12_in l D cy o  h) kv_X12_148 rfl rfl (Nat.le_of_ble_eq_true rfl) ⟨rfl, rfl, Nat.le_of_ble_eq_true rfl, Nat.le_of_ble_eq_true rfl⟩ ⟨Nat.zero_le _, Nat.zero_le _⟩ dX12_setCell_22 (fun r6 m5 h => ?_)
    refine ct_if_ne C dX12_setCell_25 31 (by decide) (fun hc7 => ?_) (fun hc7 => ?_)
    · have h := h.1 hc7
      refine ct_aload_n C dX12_setCell_31 0 rfl rfl ?_
      refine ct_callVv (As := []) (T := TX12) C (c_X12_remember l D cy o ka0 h) kv_X12_198 ka0.1 (ct_E12 ka0) rfl rfl rfl (Nat.le_of_ble_eq_true rfl) ⟨rfl, rfl, Nat.le_of_ble_eq_true rfl, Nat.le_of_ble_eq_true rfl⟩ ⟨Nat.zero_le _, Nat.zero_le _⟩ dX12_setCell_32 (fun m8 h => ?_)
      refine ct_aload_n C dX12_setCell_35 0 rfl rfl ?_
      refine gf_X12_32 C dX12_setCell_36 ka0 ?_
      have hk9 := ct_t12_10 ka0
      refine ct_iload_n C dX12_setCell_39 1 rfl rfl ?_
      refine ct_iload_n C dX12_setCell_40 2 rfl rfl ?_
      refine ct_iast C dX12_setCell_41 hk9 h.1 ?_
      have h := h.2
      refine ct_mem (fun m10 em10 => ?_)
      have h := h m10 em10
      refine ct_aload_n C dX12_setCell_42 0 rfl rfl ?_
      refine ct_aload_n C dX12_setCell_43 0 rfl rfl ?_
      refine gf_X12_32 C dX12_setCell_44 ka0 ?_
      refine ct_iload_n C dX12_setCell_47 1 rfl rfl ?_
      refine ct_callVv (As := [.ref (o + (a0 + 7)), .int p1]) (T := TX12) C (c_X12_grow l D cy o ka0 hk9 h) kv_X12_119 ka0.1 (ct_E12 ka0) rfl rfl rfl (Nat.le_of_ble_eq_true rfl) ⟨rfl, rfl, Nat.le_of_ble_eq_true rfl, Nat.le_of_ble_eq_true rfl⟩ ⟨Nat.zero_le _, Nat.zero_le _⟩ dX12_setCell_48 (fun m11 h => ?_)
      refine ct_aload_n C dX12_setCell_51 0 rfl rfl ?_
      refine gf_X12_32 C dX12_setCell_52 ka0 ?_
      refine ct_bipush C dX12_setCell_55 (6 : Int32) (by decide) ?_
      refine ct_iload_n C dX12_setCell_57 1 rfl rfl ?_
      refine ct_iadd C dX12_setCell_58 ?_
      refine ct_iald C dX12_setCell_59 hk9 h.1 ?_
      have h := h.2
      exact ct_ireti C hr hlk dX12_setCell_60 h
    · have h := h.2 hc7
      refine ct_bipush C dX12_setCell_28 (-2 : Int32) (by decide) ?_
      exact ct_ireti C hr hlk dX12_setCell_30 h
  · have h := h.2 hc4
    refine ct_iconst C dX12_setCell_12 (-1 : Int32) (by decide) ?_
    exact ct_ireti C hr hlk dX12_setCell_13 h
abbrev rm_X12_addInvariant : Room := { frames := 2, cells := 0, slots := 0, locals := 45 }
set_option maxHeartbeats 4000000 in
set_option maxRecDepth 100000 in
theorem c_X12_addInvariant (l : Launch) (D : va_G) (cy : Nat → ClassId) (o : Nat) {a0 : Nat} {p1 : Int32} {p2 : Int32} {p3 : Int32} {Q : Int32 → ct_M → Prop} {m : ct_M} (ka0 : ct_K 12 a0) (h : wp_X12_addInvariant a0 p1 p2 p3 Q m) : Met l yX12_addInvariant (ct_ws yX12_addInvariant cX12_addInvariant 5 (some .int)) rm_X12_addInvariant (va_Pc [.ref (o + a0), .int p1, .int p2, .int p3] (ct_P D cy o ct_NN m)) (va_Qi Q (ct_P D cy o ct_NN) (fun q => o ≤ q)) 0 0 (fun q => o ≤ q) := by
  refine ct_met l D cy o ct_NN m (by decide) (Nat.le_of_ble_eq_true rfl) (fun p e s mth args below meth c C hr hlk => ?_)
  refine ct_sub [0, 1, 2, 3] [(0, .ref (o + a0)), (1, .int p1), (2, .int p2), (3, .int p3)] rfl ?_
  unfold wp_X12_addInvariant at h
  refine ct_aload_n C dX12_addInvariant_0 0 rfl rfl ?_
  refine ct_iconst C dX12_addInvariant_1 (0 : Int32) (by decide) ?_
  refine pf_X12_85 C dX12_addInvariant_2 ka0 ?_
  refine ct_mem (fun m1 em1 => ?_)
  have h := h m1 em1
  refine ct_iload_n C dX12_addInvariant_5 1 rfl rfl ?_
  refine ct_callSi (As := [.int p1]) C (c_X12_noCell l D cy o  h) kv_X12_192 rfl rfl (Nat.le_of_ble_eq_true rfl) ⟨rfl, rfl, Nat.le_of_ble_eq_true rfl, Nat.le_of_ble_eq_true rfl⟩ ⟨Nat.zero_le _, Nat.zero_le _⟩ dX12_addInvariant_6 (fun r3 m2 h => ?_)
  refine ct_if_ne C dX12_addInvariant_9 19 (by decide) (fun hc4 => ?_) (fun hc4 => ?_)
  · have h := h.1 hc4
    refine ct_iconst C dX12_addInvariant_19 (-1 : Int32) (by decide) ?_
    exact ct_ireti C hr hlk dX12_addInvariant_20 h
  · have h := h.2 hc4
    refine ct_iload_n C dX12_addInvariant_12 2 rfl rfl ?_
    refine ct_callSi (As := [.int p2]) C (c_X12_noCell l D cy o  h) kv_X12_192 rfl rfl (Nat.le_of_ble_eq_true rfl) ⟨rfl, rfl, Nat.le_of_ble_eq_true rfl, Nat.le_of_ble_eq_true rfl⟩ ⟨Nat.zero_le _, Nat.zero_le _⟩ dX12_addInvariant_13 (fun r6 m5 h => ?_)
    refine ct_if_eq C dX12_addInvariant_16 21 (by decide) (fun hc7 => ?_) (fun hc7 => ?_)
    · have h := h.1 hc7
      refine ct_iload_n C dX12_addInvariant_21 3 rfl rfl ?_
      refine ct_i2l C dX12_addInvariant_22 ?_
      refine ct_ldc2 C dX12_addInvariant_23 mw_555 ?_
      refine ct_ldc2 C dX12_addInvariant_26 mw_556 ?_
      refine ct_callSi (As := [.long p3.toInt64, .long (-99 : Int64), .long (99 : Int64)]) C (c_X12_in l D cy o  h) kv_X12_148 rfl rfl (Nat.le_of_ble_eq_true rfl) ⟨rfl, rfl, Nat.le_of_ble_eq_true rfl, Nat.le_of_ble_eq_true rfl⟩ ⟨Nat.zero_le _, Nat.zero_le _⟩ dX12_addInvariant_29 (fun r9 m8 h => ?_)
      refine ct_if_ne C dX12_addInvariant_32 38 (by decide) (fun hc10 => ?_) (fun hc10 => ?_)
      · have h := h.1 hc10
        refine ct_aload_n C dX12_addInvariant_38 0 rfl rfl ?_
        refine gf_X12_32 C dX12_addInvariant_39 ka0 ?_
        have hk11 := ct_t12_10 ka0
        refine ct_bipush C dX12_addInvariant_42 (12 : Int32) (by decide) ?_
        refine ct_iald C dX12_addInvariant_44 hk11 h.1 ?_
        have h := h.2
        refine ct_iconst C dX12_addInvariant_45 (4 : Int32) (by decide) ?_
        refine ct_icmp_ne C dX12_addInvariant_46 52 (by decide) (fun hc12 => ?_) (fun hc12 => ?_)
        · have h := h.1 hc12
          refine ct_aload_n C dX12_addInvariant_52 0 rfl rfl ?_
          refine ct_callVv (As := []) (T := TX12) C (c_X12_remember l D cy o ka0 h) kv_X12_198 ka0.1 (ct_E12 ka0) rfl rfl rfl (Nat.le_of_ble_eq_true rfl) ⟨rfl, rfl, Nat.le_of_ble_eq_true rfl, Nat.le_of_ble_eq_true rfl⟩ ⟨Nat.zero_le _, Nat.zero_le _⟩ dX12_addInvariant_53 (fun m13 h => ?_)
          refine ct_bipush C dX12_addInvariant_56 (13 : Int32) (by decide) ?_
          refine ct_iconst C dX12_addInvariant_58 (3 : Int32) (by decide) ?_
          refine ct_aload_n C dX12_addInvariant_59 0 rfl rfl ?_
          refine gf_X12_32 C dX12_addInvariant_60 ka0 ?_
          refine ct_bipush C dX12_addInvariant_63 (12 : Int32) (by decide) ?_
          refine ct_iald C dX12_addInvariant_65 hk11 h.1 ?_
          have h := h.2
          refine ct_imul C dX12_addInvariant_66 ?_
          refine ct_iadd C dX12_addInvariant_67 ?_
          refine ct_topi (fun x14 ex14 => ?_)
          have h := h x14 ex14
          refine ct_istore C dX12_addInvariant_68 [(4, .int x14), (0, .ref (o + a0)), (1, .int p1), (2, .int p2), (3, .int p3)] (by decide) rfl ?_
          refine ct_aload_n C dX12_addInvariant_70 1 rfl rfl ?_
          refine gf_X12_32 C dX12_addInvariant_71 ka0 ?_
          refine ct_iload C dX12_addInvariant_74 0 rfl ?_
          refine ct_iload_n C dX12_addInvariant_76 2 rfl rfl ?_
          refine ct_iast C dX12_addInvariant_77 hk11 h.1 ?_
          have h := h.2
          refine ct_mem (fun m15 em15 => ?_)
          have h := h m15 em15
          refine ct_aload_n C dX12_addInvariant_78 1 rfl rfl ?_
          refine gf_X12_32 C dX12_addInvariant_79 ka0 ?_
          refine ct_iload C dX12_addInvariant_82 0 rfl ?_
          refine ct_iconst C dX12_addInvariant_84 (1 : Int32) (by decide) ?_
          refine ct_iadd C dX12_addInvariant_85 ?_
          refine ct_iload_n C dX12_addInvariant_86 3 rfl rfl ?_
          refine ct_iast C dX12_addInvariant_87 hk11 h.1 ?_
          have h := h.2
          refine ct_mem (fun m16 em16 => ?_)
          have h := h m16 em16
          refine ct_aload_n C dX12_addInvariant_88 1 rfl rfl ?_
          refine gf_X12_32 C dX12_addInvariant_89 ka0 ?_
          refine ct_iload C dX12_addInvariant_92 0 rfl ?_
          refine ct_iconst C dX12_addInvariant_94 (2 : Int32) (by decide) ?_
          refine ct_iadd C dX12_addInvariant_95 ?_
          refine ct_iload_n C dX12_addInvariant_96 4 rfl rfl ?_
          refine ct_iast C dX12_addInvariant_97 hk11 h.1 ?_
          have h := h.2
          refine ct_mem (fun m17 em17 => ?_)
          have h := h m17 em17
          refine ct_aload_n C dX12_addInvariant_98 1 rfl rfl ?_
          refine gf_X12_32 C dX12_addInvariant_99 ka0 ?_
          refine ct_bipush C dX12_addInvariant_102 (12 : Int32) (by decide) ?_
          refine ct_dup2 C dX12_addInvariant_104 rfl rfl ?_
          refine ct_iald C dX12_addInvariant_105 hk11 h.1 ?_
          have h := h.2
          refine ct_iconst C dX12_addInvariant_106 (1 : Int32) (by decide) ?_
          refine ct_iadd C dX12_addInvariant_107 ?_
          refine ct_iast C dX12_addInvariant_108 hk11 h.1 ?_
          have h := h.2
          refine ct_mem (fun m18 em18 => ?_)
          have h := h m18 em18
          refine ct_aload_n C dX12_addInvariant_109 1 rfl rfl ?_
          refine gf_X12_32 C dX12_addInvariant_110 ka0 ?_
          refine ct_bipush C dX12_addInvariant_113 (12 : Int32) (by decide) ?_
          refine ct_iald C dX12_addInvariant_115 hk11 h.1 ?_
          have h := h.2
          exact ct_ireti C hr hlk dX12_addInvariant_116 h
        · have h := h.2 hc12
          refine ct_bipush C dX12_addInvariant_49 (-4 : Int32) (by decide) ?_
          exact ct_ireti C hr hlk dX12_addInvariant_51 h
      · have h := h.2 hc10
        refine ct_bipush C dX12_addInvariant_35 (-2 : Int32) (by decide) ?_
        exact ct_ireti C hr hlk dX12_addInvariant_37 h
    · have h := h.2 hc7
      refine ct_iconst C dX12_addInvariant_19 (-1 : Int32) (by decide) ?_
      exact ct_ireti C hr hlk dX12_addInvariant_20 h
abbrev rm_X12_undo : Room := { frames := 0, cells := 0, slots := 0, locals := 0 }
set_option maxHeartbeats 4000000 in
set_option maxRecDepth 100000 in
theorem kb_X12_undo_27 {p : Program} {l : Launch} {e : Env} {s : State} {mth : MethodId} {args : Array Value} {below : List Frame} {meth : Method} {c : Code} {D : va_G} {cy : Nat → ClassId} {o : Nat} {Q : Int32 → ct_M → Prop} (C : ct_Cx p s mth c cX12_undo 2 args RX12 D cy) (hr : meth.sig.returnType = (some .int)) (hlk : meth.locks = false) : ∀ (n : Nat) (v0 : Nat) (v1 : Int32) (m : ct_M) (kv0 : ct_K 12 v0), wb_X12_undo_27 Q n v0 v1 m → ct_J p l e rm_X12_undo s mth args below meth c 2 D cy o ct_NN 0 0 (MQ below (va_Qi Q (ct_P D cy o ct_NN) (fun q => o ≤ q)) args s 0 0 (fun q => o ≤ q)) m 27 [(0, .ref (o + v0)), (1, .int v1)] [] := by
  intro n
  induction n with
  | zero => intro v0 v1 m kv0 h; exact h.elim
  | succ n ih =>
    intro v0 v1 m kv0 h
    unfold wb_X12_undo_27 at h
    refine ct_iload_n C dX12_undo_27 1 rfl rfl ?_
    refine ct_sipush C dX12_undo_28 (172 : Int32) (by decide) ?_
    refine ct_icmp_ge C dX12_undo_31 61 (by decide) (fun hc1 => ?_) (fun hc1 => ?_)
    · have h := h.1 hc1
      refine ct_aload_n C dX12_undo_61 0 rfl rfl ?_
      refine gf_X12_187 C dX12_undo_62 kv0 ?_
      exact ct_ireti C hr hlk dX12_undo_65 h
    · have h := h.2 hc1
      refine ct_aload_n C dX12_undo_34 0 rfl rfl ?_
      refine gf_X12_32 C dX12_undo_35 kv0 ?_
      have hk2 := ct_t12_10 kv0
      refine ct_iload_n C dX12_undo_38 1 rfl rfl ?_
      refine ct_aload_n C dX12_undo_39 0 rfl rfl ?_
      refine gf_X12_38 C dX12_undo_40 kv0 ?_
      have hk3 := ct_t12_12 kv0
      refine ct_sipush C dX12_undo_43 (172 : Int32) (by decide) ?_
      refine ct_aload_n C dX12_undo_46 0 rfl rfl ?_
      refine gf_X12_187 C dX12_undo_47 kv0 ?_
      refine ct_imul C dX12_undo_50 ?_
      refine ct_iload_n C dX12_undo_51 1 rfl rfl ?_
      refine ct_iadd C dX12_undo_52 ?_
      refine ct_iald C dX12_undo_53 hk3 h.1 ?_
      have h := h.2
      refine ct_iast C dX12_undo_54 hk2 h.1 ?_
      have h := h.2
      refine ct_mem (fun m4 em4 => ?_)
      have h := h m4 em4
      obtain ⟨x5, ex5⟩ : ∃ z : Int32, z = v1 + (1 : Int32) := ⟨_, rfl⟩
      have h := h x5 ex5
      refine ct_iinc (k := 1) (v := x5) C dX12_undo_55 [(1, .int x5), (0, .ref (o + v0))] rfl (by rw [ex5]; rfl) (by decide) rfl ?_
      refine ct_goto C dX12_undo_58 27 (by decide) ?_
      refine ct_sub [1, 0] [(0, .ref (o + v0)), (1, .int x5)] rfl ?_
      exact ih _ _ _ kv0 h
set_option maxHeartbeats 4000000 in
set_option maxRecDepth 100000 in
theorem c_X12_undo (l : Launch) (D : va_G) (cy : Nat → ClassId) (o : Nat) {a0 : Nat} {Q : Int32 → ct_M → Prop} {m : ct_M} (ka0 : ct_K 12 a0) (h : wp_X12_undo a0 Q m) : Met l yX12_undo (ct_ws yX12_undo cX12_undo 2 (some .int)) rm_X12_undo (va_Pc [.ref (o + a0)] (ct_P D cy o ct_NN m)) (va_Qi Q (ct_P D cy o ct_NN) (fun q => o ≤ q)) 0 0 (fun q => o ≤ q) := by
  refine ct_met l D cy o ct_NN m (by decide) (Nat.le_of_ble_eq_true rfl) (fun p e s mth args below meth c C hr hlk => ?_)
  refine ct_sub [0] [(0, .ref (o + a0))] rfl ?_
  unfold wp_X12_undo at h
  refine ct_aload_n C dX12_undo_0 0 rfl rfl ?_
  refine ct_iconst C dX12_undo_1 (0 : Int32) (by decide) ?_
  refine pf_X12_85 C dX12_undo_2 ka0 ?_
  refine ct_mem (fun m1 em1 => ?_)
  have h := h m1 em1
  refine ct_aload_n C dX12_undo_5 0 rfl rfl ?_
  refine gf_X12_187 C dX12_undo_6 ka0 ?_
  refine ct_if_ne C dX12_undo_9 15 (by decide) (fun hc2 => ?_) (fun hc2 => ?_)
  · have h := h.1 hc2
    refine ct_aload_n C dX12_undo_15 0 rfl rfl ?_
    refine ct_dup C dX12_undo_16 rfl ?_
    refine gf_X12_187 C dX12_undo_17 ka0 ?_
    refine ct_iconst C dX12_undo_20 (1 : Int32) (by decide) ?_
    refine ct_isub C dX12_undo_21 ?_
    refine pf_X12_187 C dX12_undo_22 ka0 ?_
    refine ct_mem (fun m3 em3 => ?_)
    have h := h m3 em3
    refine ct_iconst C dX12_undo_25 (0 : Int32) (by decide) ?_
    refine ct_istore_n C dX12_undo_26 [(1, .int (0 : Int32)), (0, .ref (o + a0))] rfl (by decide) rfl ?_
    refine ct_sub [1, 0] [(0, .ref (o + a0)), (1, .int (0 : Int32))] rfl ?_
    obtain ⟨n4, h⟩ := h
    exact kb_X12_undo_27 C hr hlk  n4 _ _ _ ka0 h
  · have h := h.2 hc2
    refine ct_bipush C dX12_undo_12 (-3 : Int32) (by decide) ?_
    exact ct_ireti C hr hlk dX12_undo_14 h
abbrev rm_X12_keyOf : Room := { frames := 1, cells := 0, slots := 0, locals := 21 }
set_option maxHeartbeats 4000000 in
set_option maxRecDepth 100000 in
theorem kb_X12_keyOf_92 {p : Program} {l : Launch} {e : Env} {s : State} {mth : MethodId} {args : Array Value} {below : List Frame} {meth : Method} {c : Code} {D : va_G} {cy : Nat → ClassId} {o : Nat} {Q : Int64 → ct_M → Prop} {K37 : Nat → Int32 → Int32 → Int64 → Int32 → ct_M → Prop} {v0 : Nat} {v1 : Int32} {v2 : Int32} {v5 : Int32} {s0 : Int32} {s1 : Int64} {m : ct_M} (C : ct_Cx p s mth c cX12_keyOf 6 args RX12 D cy) (hr : meth.sig.returnType = (some .long)) (hlk : meth.locks = false) (hK37 : ∀ (v0 : Nat) (v1 : Int32) (v2 : Int32) (v3 : Int64) (v5 : Int32) (m : ct_M), ct_K 14 v0 → K37 v0 v1 v2 v3 v5 m → ct_J p l e rm_X12_keyOf s mth args below meth c 6 D cy o ct_NN 0 0 (MQ below (va_Ql Q (ct_P D cy o ct_NN) (fun q => o ≤ q)) args s 0 0 (fun q => o ≤ q)) m 37 [(0, .ref (o + v0)), (1, .int v1), (2, .int v2), (3, .long v3), (5, .int v5)] []) (kv0 : ct_K 14 v0) (h : wb_X12_keyOf_92 K37 Q v0 v1 v2 v5 s0 s1 m) : ct_J p l e rm_X12_keyOf s mth args below meth c 6 D cy o ct_NN 0 0 (MQ below (va_Ql Q (ct_P D cy o ct_NN) (fun q => o ≤ q)) args s 0 0 (fun q => o ≤ q)) m 92 [(0, .ref (o + v0)), (1, .int v1), (2, .int v2), (5, .int v5)] [.int s0, .long s1] := by
  unfold wb_X12_keyOf_92 at h
  refine ct_i2l C dX12_keyOf_92 ?_
  refine ct_ladd C dX12_keyOf_93 ?_
  refine ct_topl (fun x1 ex1 => ?_)
  have h := h x1 ex1
  refine ct_lstore_n C dX12_keyOf_94 [(3, .long x1), (0, .ref (o + v0)), (1, .int v1), (2, .int v2), (5, .int v5)] rfl (by decide) rfl ?_
  obtain ⟨x2, ex2⟩ : ∃ z : Int32, z = v5 + (1 : Int32) := ⟨_, rfl⟩
  have h := h x2 ex2
  refine ct_iinc (k := 4) (v := x2) C dX12_keyOf_95 [(5, .int x2), (3, .long x1), (0, .ref (o + v0)), (1, .int v1), (2, .int v2)] rfl (by rw [ex2]; rfl) (by decide) rfl ?_
  refine ct_goto C dX12_keyOf_98 37 (by decide) ?_
  refine ct_sub [2, 3, 4, 1, 0] [(0, .ref (o + v0)), (1, .int v1), (2, .int v2), (3, .long x1), (5, .int x2)] rfl ?_
  exact hK37 _ _ _ _ _ _ kv0 h
set_option maxHeartbeats 4000000 in
set_option maxRecDepth 100000 in
theorem kb_X12_keyOf_76 {p : Program} {l : Launch} {e : Env} {s : State} {mth : MethodId} {args : Array Value} {below : List Frame} {meth : Method} {c : Code} {D : va_G} {cy : Nat → ClassId} {o : Nat} {Q : Int64 → ct_M → Prop} {K37 : Nat → Int32 → Int32 → Int64 → Int32 → ct_M → Prop} {v0 : Nat} {v1 : Int32} {v2 : Int32} {v5 : Int32} {s0 : Int32} {s1 : Int64} {m : ct_M} (C : ct_Cx p s mth c cX12_keyOf 6 args RX12 D cy) (hr : meth.sig.returnType = (some .long)) (hlk : meth.locks = false) (hK37 : ∀ (v0 : Nat) (v1 : Int32) (v2 : Int32) (v3 : Int64) (v5 : Int32) (m : ct_M), ct_K 14 v0 → K37 v0 v1 v2 v3 v5 m → ct_J p l e rm_X12_keyOf s mth args below meth c 6 D cy o ct_NN 0 0 (MQ below (va_Ql Q (ct_P D cy o ct_NN) (fun q => o ≤ q)) args s 0 0 (fun q => o ≤ q)) m 37 [(0, .ref (o + v0)), (1, .int v1), (2, .int v2), (3, .long v3), (5, .int v5)] []) (kv0 : ct_K 14 v0) (h : wb_X12_keyOf_76 K37 Q v0 v1 v2 v5 s0 s1 m) : ct_J p l e rm_X12_keyOf s mth args below meth c 6 D cy o ct_NN 0 0 (MQ below (va_Ql Q (ct_P D cy o ct_NN) (fun q => o ≤ q)) args s 0 0 (fun q => o ≤ q)) m 76 [(0, .ref (o + v0)), (1, .int v1), (2, .int v2), (5, .int v5)] [.int s0, .long s1] := by
  unfold wb_X12_keyOf_76 at h
  refine ct_i2l C dX12_keyOf_76 ?_
  refine ct_ladd C dX12_keyOf_77 ?_
  refine ct_iload_n C dX12_keyOf_78 1 rfl rfl ?_
  refine ct_iload C dX12_keyOf_79 3 rfl ?_
  refine ct_callSi (As := [.int v1, .int v5]) C (c_X12_has l D cy o  h) kv_X12_100 rfl rfl (Nat.le_of_ble_eq_true rfl) ⟨rfl, rfl, Nat.le_of_ble_eq_true rfl, Nat.le_of_ble_eq_true rfl⟩ ⟨Nat.zero_le _, Nat.zero_le _⟩ dX12_keyOf_81 (fun r2 m1 h => ?_)
  refine ct_if_eq C dX12_keyOf_84 91 (by decide) (fun hc3 => ?_) (fun hc3 => ?_)
  · have h := h.1 hc3
    refine ct_iconst C dX12_keyOf_91 (0 : Int32) (by decide) ?_
    refine ct_sub [0, 1, 2, 3] [(0, .ref (o + v0)), (1, .int v1), (2, .int v2), (5, .int v5)] rfl ?_
    exact kb_X12_keyOf_92 C hr hlk hK37 kv0 h
  · have h := h.2 hc3
    refine ct_iconst C dX12_keyOf_87 (1 : Int32) (by decide) ?_
    refine ct_goto C dX12_keyOf_88 92 (by decide) ?_
    refine ct_sub [0, 1, 2, 3] [(0, .ref (o + v0)), (1, .int v1), (2, .int v2), (5, .int v5)] rfl ?_
    exact kb_X12_keyOf_92 C hr hlk hK37 kv0 h
set_option maxHeartbeats 4000000 in
set_option maxRecDepth 100000 in
theorem kb_X12_keyOf_37 {p : Program} {l : Launch} {e : Env} {s : State} {mth : MethodId} {args : Array Value} {below : List Frame} {meth : Method} {c : Code} {D : va_G} {cy : Nat → ClassId} {o : Nat} {Q : Int64 → ct_M → Prop} (C : ct_Cx p s mth c cX12_keyOf 6 args RX12 D cy) (hr : meth.sig.returnType = (some .long)) (hlk : meth.locks = false) : ∀ (n : Nat) (v0 : Nat) (v1 : Int32) (v2 : Int32) (v3 : Int64) (v5 : Int32) (m : ct_M) (kv0 : ct_K 14 v0), wb_X12_keyOf_37 Q n v0 v1 v2 v3 v5 m → ct_J p l e rm_X12_keyOf s mth args below meth c 6 D cy o ct_NN 0 0 (MQ below (va_Ql Q (ct_P D cy o ct_NN) (fun q => o ≤ q)) args s 0 0 (fun q => o ≤ q)) m 37 [(0, .ref (o + v0)), (1, .int v1), (2, .int v2), (3, .long v3), (5, .int v5)] [] := by
  intro n
  induction n with
  | zero => intro v0 v1 v2 v3 v5 m kv0 h; exact h.elim
  | succ n ih =>
    intro v0 v1 v2 v3 v5 m kv0 h
    unfold wb_X12_keyOf_37 at h
    refine ct_iload C dX12_keyOf_37 4 rfl ?_
    refine ct_iconst C dX12_keyOf_39 (3 : Int32) (by decide) ?_
    refine ct_icmp_ge C dX12_keyOf_40 101 (by decide) (fun hc1 => ?_) (fun hc1 => ?_)
    · have h := h.1 hc1
      refine ct_lload_n C dX12_keyOf_101 3 rfl rfl ?_
      exact ct_lret C hr hlk dX12_keyOf_102 h
    · have h := h.2 hc1
      refine ct_ldc2 C dX12_keyOf_43 mw_557 ?_
      refine ct_lload_n C dX12_keyOf_46 3 rfl rfl ?_
      refine ct_lmul C dX12_keyOf_47 ?_
      refine ct_iconst C dX12_keyOf_48 (4 : Int32) (by decide) ?_
      refine ct_aload_n C dX12_keyOf_49 0 rfl rfl ?_
      refine ct_iload C dX12_keyOf_50 4 rfl ?_
      refine ct_callSi (As := [.int v5]) C (c_X12_at l D cy o  h) kv_X12_88 rfl rfl (Nat.le_of_ble_eq_true rfl) ⟨rfl, rfl, Nat.le_of_ble_eq_true rfl, Nat.le_of_ble_eq_true rfl⟩ ⟨Nat.zero_le _, Nat.zero_le _⟩ dX12_keyOf_52 (fun r3 m2 h => ?_)
      refine ct_bipush C dX12_keyOf_55 (47 : Int32) (by decide) ?_
      refine ct_iadd C dX12_keyOf_57 ?_
      refine ct_iald C dX12_keyOf_58 kv0 h.1 ?_
      have h := h.2
      refine ct_imul C dX12_keyOf_59 ?_
      refine ct_i2l C dX12_keyOf_60 ?_
      refine ct_ladd C dX12_keyOf_61 ?_
      refine ct_iload_n C dX12_keyOf_62 2 rfl rfl ?_
      refine ct_iload C dX12_keyOf_63 4 rfl ?_
      refine ct_callSi (As := [.int v2, .int v5]) C (c_X12_has l D cy o  h) kv_X12_100 rfl rfl (Nat.le_of_ble_eq_true rfl) ⟨rfl, rfl, Nat.le_of_ble_eq_true rfl, Nat.le_of_ble_eq_true rfl⟩ ⟨Nat.zero_le _, Nat.zero_le _⟩ dX12_keyOf_65 (fun r5 m4 h => ?_)
      refine ct_if_eq C dX12_keyOf_68 75 (by decide) (fun hc6 => ?_) (fun hc6 => ?_)
      · have h := h.1 hc6
        refine ct_iconst C dX12_keyOf_75 (0 : Int32) (by decide) ?_
        refine ct_sub [0, 1, 2, 4] [(0, .ref (o + v0)), (1, .int v1), (2, .int v2), (5, .int v5)] rfl ?_
        exact kb_X12_keyOf_76 C hr hlk ih kv0 h
      · have h := h.2 hc6
        refine ct_iconst C dX12_keyOf_71 (2 : Int32) (by decide) ?_
        refine ct_goto C dX12_keyOf_72 76 (by decide) ?_
        refine ct_sub [0, 1, 2, 4] [(0, .ref (o + v0)), (1, .int v1), (2, .int v2), (5, .int v5)] rfl ?_
        exact kb_X12_keyOf_76 C hr hlk ih kv0 h
set_option maxHeartbeats 4000000 in
set_option maxRecDepth 100000 in
theorem kb_X12_keyOf_5 {p : Program} {l : Launch} {e : Env} {s : State} {mth : MethodId} {args : Array Value} {below : List Frame} {meth : Method} {c : Code} {D : va_G} {cy : Nat → ClassId} {o : Nat} {Q : Int64 → ct_M → Prop} (C : ct_Cx p s mth c cX12_keyOf 6 args RX12 D cy) (hr : meth.sig.returnType = (some .long)) (hlk : meth.locks = false) : ∀ (n : Nat) (v0 : Nat) (v1 : Int32) (v2 : Int32) (v3 : Int64) (v5 : Int32) (m : ct_M) (kv0 : ct_K 14 v0), wb_X12_keyOf_5 Q n v0 v1 v2 v3 v5 m → ct_J p l e rm_X12_keyOf s mth args below meth c 6 D cy o ct_NN 0 0 (MQ below (va_Ql Q (ct_P D cy o ct_NN) (fun q => o ≤ q)) args s 0 0 (fun q => o ≤ q)) m 5 [(0, .ref (o + v0)), (1, .int v1), (2, .int v2), (3, .long v3), (5, .int v5)] [] := by
  intro n
  induction n with
  | zero => intro v0 v1 v2 v3 v5 m kv0 h; exact h.elim
  | succ n ih =>
    intro v0 v1 v2 v3 v5 m kv0 h
    unfold wb_X12_keyOf_5 at h
    refine ct_iload C dX12_keyOf_5 4 rfl ?_
    refine ct_bipush C dX12_keyOf_7 (6 : Int32) (by decide) ?_
    refine ct_icmp_ge C dX12_keyOf_9 34 (by decide) (fun hc1 => ?_) (fun hc1 => ?_)
    · have h := h.1 hc1
      refine ct_iconst C dX12_keyOf_34 (0 : Int32) (by decide) ?_
      refine ct_istore C dX12_keyOf_35 [(5, .int (0 : Int32)), (0, .ref (o + v0)), (1, .int v1), (2, .int v2), (3, .long v3)] (by decide) rfl ?_
      refine ct_sub [1, 2, 3, 4, 0] [(0, .ref (o + v0)), (1, .int v1), (2, .int v2), (3, .long v3), (5, .int (0 : Int32))] rfl ?_
      obtain ⟨n2, h⟩ := h
      exact kb_X12_keyOf_37 C hr hlk  n2 _ _ _ _ _ _ kv0 h
    · have h := h.2 hc1
      refine ct_ldc2 C dX12_keyOf_12 mw_558 ?_
      refine ct_lload_n C dX12_keyOf_15 3 rfl rfl ?_
      refine ct_lmul C dX12_keyOf_16 ?_
      refine ct_aload_n C dX12_keyOf_17 0 rfl rfl ?_
      refine ct_iload C dX12_keyOf_18 4 rfl ?_
      refine ct_iald C dX12_keyOf_20 kv0 h.1 ?_
      have h := h.2
      refine ct_i2l C dX12_keyOf_21 ?_
      refine ct_ladd C dX12_keyOf_22 ?_
      refine ct_ldc2 C dX12_keyOf_23 mw_559 ?_
      refine ct_ladd C dX12_keyOf_26 ?_
      refine ct_topl (fun x3 ex3 => ?_)
      have h := h x3 ex3
      refine ct_lstore_n C dX12_keyOf_27 [(3, .long x3), (0, .ref (o + v0)), (1, .int v1), (2, .int v2), (5, .int v5)] rfl (by decide) rfl ?_
      obtain ⟨x4, ex4⟩ : ∃ z : Int32, z = v5 + (1 : Int32) := ⟨_, rfl⟩
      have h := h x4 ex4
      refine ct_iinc (k := 4) (v := x4) C dX12_keyOf_28 [(5, .int x4), (3, .long x3), (0, .ref (o + v0)), (1, .int v1), (2, .int v2)] rfl (by rw [ex4]; rfl) (by decide) rfl ?_
      refine ct_goto C dX12_keyOf_31 5 (by decide) ?_
      refine ct_sub [2, 3, 4, 1, 0] [(0, .ref (o + v0)), (1, .int v1), (2, .int v2), (3, .long x3), (5, .int x4)] rfl ?_
      exact ih _ _ _ _ _ _ kv0 h
set_option maxHeartbeats 4000000 in
set_option maxRecDepth 100000 in
theorem c_X12_keyOf (l : Launch) (D : va_G) (cy : Nat → ClassId) (o : Nat) {a0 : Nat} {p1 : Int32} {p2 : Int32} {Q : Int64 → ct_M → Prop} {m : ct_M} (ka0 : ct_K 14 a0) (h : wp_X12_keyOf a0 p1 p2 Q m) : Met l yX12_keyOf (ct_ws yX12_keyOf cX12_keyOf 6 (some .long)) rm_X12_keyOf (va_Pc [.ref (o + a0), .int p1, .int p2] (ct_P D cy o ct_NN m)) (va_Ql Q (ct_P D cy o ct_NN) (fun q => o ≤ q)) 0 0 (fun q => o ≤ q) := by
  refine ct_met l D cy o ct_NN m (by decide) (Nat.le_of_ble_eq_true rfl) (fun p e s mth args below meth c C hr hlk => ?_)
  refine ct_sub [0, 1, 2] [(0, .ref (o + a0)), (1, .int p1), (2, .int p2)] rfl ?_
  unfold wp_X12_keyOf at h
  refine ct_lconst C dX12_keyOf_0 (0 : Int64) (by decide) ?_
  refine ct_lstore_n C dX12_keyOf_1 [(3, .long (0 : Int64)), (0, .ref (o + a0)), (1, .int p1), (2, .int p2)] rfl (by decide) rfl ?_
  refine ct_iconst C dX12_keyOf_2 (0 : Int32) (by decide) ?_
  refine ct_istore C dX12_keyOf_3 [(5, .int (0 : Int32)), (3, .long (0 : Int64)), (0, .ref (o + a0)), (1, .int p1), (2, .int p2)] (by decide) rfl ?_
  refine ct_sub [2, 3, 4, 1, 0] [(0, .ref (o + a0)), (1, .int p1), (2, .int p2), (3, .long (0 : Int64)), (5, .int (0 : Int32))] rfl ?_
  obtain ⟨n1, h⟩ := h
  exact kb_X12_keyOf_5 C hr hlk  n1 _ _ _ _ _ _ ka0 h
abbrev rm_X12_threadBits : Room := { frames := 0, cells := 0, slots := 0, locals := 0 }
set_option maxHeartbeats 4000000 in
set_option maxRecDepth 100000 in
theorem c_X12_threadBits (l : Launch) (D : va_G) (cy : Nat → ClassId) (o : Nat) {p0 : Int64} {p2 : Int32} {Q : Int32 → ct_M → Prop} {m : ct_M} (h : wp_X12_threadBits p0 p2 Q m) : Met l yX12_threadBits (ct_ws yX12_threadBits cX12_threadBits 3 (some .int)) rm_X12_threadBits (va_Pc [.long p0, .int p2] (ct_P D cy o ct_NN m)) (va_Qi Q (ct_P D cy o ct_NN) (fun q => o ≤ q)) 0 0 (fun q => o ≤ q) := by
  refine ct_met l D cy o ct_NN m (by decide) (Nat.le_of_ble_eq_true rfl) (fun p e s mth args below meth c C hr hlk => ?_)
  refine ct_sub [0, 1] [(0, .long p0), (2, .int p2)] rfl ?_
  unfold wp_X12_threadBits at h
  refine ct_lload_n C dX12_threadBits_0 0 rfl rfl ?_
  refine ct_iconst C dX12_threadBits_1 (4 : Int32) (by decide) ?_
  refine ct_iconst C dX12_threadBits_2 (2 : Int32) (by decide) ?_
  refine ct_iload_n C dX12_threadBits_3 1 rfl rfl ?_
  refine ct_isub C dX12_threadBits_4 ?_
  refine ct_imul C dX12_threadBits_5 ?_
  refine ct_lshr C dX12_threadBits_6 ?_
  refine ct_ldc2 C dX12_threadBits_7 mw_560 ?_
  refine ct_land C dX12_threadBits_10 ?_
  refine ct_l2i C dX12_threadBits_11 ?_
  exact ct_ireti C hr hlk dX12_threadBits_12 h
abbrev rm_X12_valueIn : Room := { frames := 0, cells := 0, slots := 0, locals := 0 }
set_option maxHeartbeats 4000000 in
set_option maxRecDepth 100000 in
theorem c_X12_valueIn (l : Launch) (D : va_G) (cy : Nat → ClassId) (o : Nat) {p0 : Int64} {p2 : Int32} {Q : Int32 → ct_M → Prop} {m : ct_M} (h : wp_X12_valueIn p0 p2 Q m) : Met l yX12_valueIn (ct_ws yX12_valueIn cX12_valueIn 3 (some .int)) rm_X12_valueIn (va_Pc [.long p0, .int p2] (ct_P D cy o ct_NN m)) (va_Qi Q (ct_P D cy o ct_NN) (fun q => o ≤ q)) 0 0 (fun q => o ≤ q) := by
  refine ct_met l D cy o ct_NN m (by decide) (Nat.le_of_ble_eq_true rfl) (fun p e s mth args below meth c C hr hlk => ?_)
  refine ct_sub [0, 1] [(0, .long p0), (2, .int p2)] rfl ?_
  unfold wp_X12_valueIn at h
  refine ct_lload_n C dX12_valueIn_0 0 rfl rfl ?_
  refine ct_bipush C dX12_valueIn_1 (12 : Int32) (by decide) ?_
  refine ct_bipush C dX12_valueIn_3 (8 : Int32) (by decide) ?_
  refine ct_iconst C dX12_valueIn_5 (5 : Int32) (by decide) ?_
  refine ct_iload_n C dX12_valueIn_6 1 rfl rfl ?_
  refine ct_isub C dX12_valueIn_7 ?_
  refine ct_imul C dX12_valueIn_8 ?_
  refine ct_iadd C dX12_valueIn_9 ?_
  refine ct_lshr C dX12_valueIn_10 ?_
  refine ct_ldc2 C dX12_valueIn_11 mw_494 ?_
  refine ct_land C dX12_valueIn_14 ?_
  refine ct_l2i C dX12_valueIn_15 ?_
  refine ct_bipush C dX12_valueIn_16 (100 : Int32) (by decide) ?_
  refine ct_isub C dX12_valueIn_18 ?_
  exact ct_ireti C hr hlk dX12_valueIn_19 h
abbrev rm_X12_addKey : Room := { frames := 0, cells := 0, slots := 0, locals := 0 }
set_option maxHeartbeats 4000000 in
set_option maxRecDepth 100000 in
theorem kb_X12_addKey_2 {p : Program} {l : Launch} {e : Env} {s : State} {mth : MethodId} {args : Array Value} {below : List Frame} {meth : Method} {c : Code} {D : va_G} {cy : Nat → ClassId} {o : Nat} {Q : ct_M → Prop} (C : ct_Cx p s mth c cX12_addKey 4 args RX12 D cy) (hr : meth.sig.returnType = none) (hlk : meth.locks = false) : ∀ (n : Nat) (v0 : Nat) (v1 : Int64) (v3 : Int32) (m : ct_M) (kv0 : ct_K 12 v0), wb_X12_addKey_2 Q n v0 v1 v3 m → ct_J p l e rm_X12_addKey s mth args below meth c 4 D cy o ct_NN 0 0 (MQ below (va_Qv Q (ct_P D cy o ct_NN) (fun q => o ≤ q)) args s 0 0 (fun q => o ≤ q)) m 2 [(0, .ref (o + v0)), (1, .long v1), (3, .int v3)] [] := by
  intro n
  induction n with
  | zero => intro v0 v1 v3 m kv0 h; exact h.elim
  | succ n ih =>
    intro v0 v1 v3 m kv0 h
    unfold wb_X12_addKey_2 at h
    refine ct_iload_n C dX12_addKey_2 2 rfl rfl ?_
    refine ct_aload_n C dX12_addKey_3 0 rfl rfl ?_
    refine gf_X12_216 C dX12_addKey_4 kv0 ?_
    refine ct_icmp_ge C dX12_addKey_7 28 (by decide) (fun hc1 => ?_) (fun hc1 => ?_)
    · have h := h.1 hc1
      refine ct_aload_n C dX12_addKey_28 0 rfl rfl ?_
      refine gf_X12_78 C dX12_addKey_29 kv0 ?_
      have hk2 := ct_t12_30 kv0
      refine ct_aload_n C dX12_addKey_32 0 rfl rfl ?_
      refine gf_X12_216 C dX12_addKey_33 kv0 ?_
      refine ct_lload_n C dX12_addKey_36 1 rfl rfl ?_
      refine ct_last C dX12_addKey_37 hk2 h.1 ?_
      have h := h.2
      refine ct_mem (fun m3 em3 => ?_)
      have h := h m3 em3
      refine ct_aload_n C dX12_addKey_38 0 rfl rfl ?_
      refine ct_dup C dX12_addKey_39 rfl ?_
      refine gf_X12_216 C dX12_addKey_40 kv0 ?_
      refine ct_iconst C dX12_addKey_43 (1 : Int32) (by decide) ?_
      refine ct_iadd C dX12_addKey_44 ?_
      refine pf_X12_216 C dX12_addKey_45 kv0 ?_
      refine ct_mem (fun m4 em4 => ?_)
      have h := h m4 em4
      exact ct_vret C hr hlk dX12_addKey_48 h
    · have h := h.2 hc1
      refine ct_aload_n C dX12_addKey_10 0 rfl rfl ?_
      refine gf_X12_78 C dX12_addKey_11 kv0 ?_
      have hk5 := ct_t12_30 kv0
      refine ct_iload_n C dX12_addKey_14 2 rfl rfl ?_
      refine ct_lald C dX12_addKey_15 hk5 h.1 ?_
      have h := h.2
      refine ct_lload_n C dX12_addKey_16 1 rfl rfl ?_
      refine ct_lcmp C dX12_addKey_17 ?_
      refine ct_if_ne C dX12_addKey_18 22 (by decide) (fun hc6 => ?_) (fun hc6 => ?_)
      · have h := h.1 hc6
        obtain ⟨x7, ex7⟩ : ∃ z : Int32, z = v3 + (1 : Int32) := ⟨_, rfl⟩
        have h := h x7 ex7
        refine ct_iinc (k := 2) (v := x7) C dX12_addKey_22 [(3, .int x7), (0, .ref (o + v0)), (1, .long v1)] rfl (by rw [ex7]; rfl) (by decide) rfl ?_
        refine ct_goto C dX12_addKey_25 2 (by decide) ?_
        refine ct_sub [1, 2, 0] [(0, .ref (o + v0)), (1, .long v1), (3, .int x7)] rfl ?_
        exact ih _ _ _ _ kv0 h
      · have h := h.2 hc6
        exact ct_vret C hr hlk dX12_addKey_21 h
set_option maxHeartbeats 4000000 in
set_option maxRecDepth 100000 in
theorem c_X12_addKey (l : Launch) (D : va_G) (cy : Nat → ClassId) (o : Nat) {a0 : Nat} {p1 : Int64} {Q : ct_M → Prop} {m : ct_M} (ka0 : ct_K 12 a0) (h : wp_X12_addKey a0 p1 Q m) : Met l yX12_addKey (ct_ws yX12_addKey cX12_addKey 4 none) rm_X12_addKey (va_Pc [.ref (o + a0), .long p1] (ct_P D cy o ct_NN m)) (va_Qv Q (ct_P D cy o ct_NN) (fun q => o ≤ q)) 0 0 (fun q => o ≤ q) := by
  refine ct_met l D cy o ct_NN m (by decide) (Nat.le_of_ble_eq_true rfl) (fun p e s mth args below meth c C hr hlk => ?_)
  refine ct_sub [0, 1] [(0, .ref (o + a0)), (1, .long p1)] rfl ?_
  unfold wp_X12_addKey at h
  refine ct_iconst C dX12_addKey_0 (0 : Int32) (by decide) ?_
  refine ct_istore_n C dX12_addKey_1 [(3, .int (0 : Int32)), (0, .ref (o + a0)), (1, .long p1)] rfl (by decide) rfl ?_
  refine ct_sub [1, 2, 0] [(0, .ref (o + a0)), (1, .long p1), (3, .int (0 : Int32))] rfl ?_
  obtain ⟨n1, h⟩ := h
  exact kb_X12_addKey_2 C hr hlk  n1 _ _ _ _ ka0 h
abbrev rm_X12_addOutcome : Room := { frames := 0, cells := 0, slots := 0, locals := 0 }
set_option maxHeartbeats 4000000 in
set_option maxRecDepth 100000 in
theorem kb_X12_addOutcome_9 {p : Program} {l : Launch} {e : Env} {s : State} {mth : MethodId} {args : Array Value} {below : List Frame} {meth : Method} {c : Code} {D : va_G} {cy : Nat → ClassId} {o : Nat} {Q : ct_M → Prop} (C : ct_Cx p s mth c cX12_addOutcome 6 args RX12 D cy) (hr : meth.sig.returnType = none) (hlk : meth.locks = false) : ∀ (n : Nat) (v0 : Nat) (v3 : Int64) (v5 : Int32) (m : ct_M) (kv0 : ct_K 12 v0), wb_X12_addOutcome_9 Q n v0 v3 v5 m → ct_J p l e rm_X12_addOutcome s mth args below meth c 6 D cy o ct_NN 0 0 (MQ below (va_Qv Q (ct_P D cy o ct_NN) (fun q => o ≤ q)) args s 0 0 (fun q => o ≤ q)) m 9 [(0, .ref (o + v0)), (3, .long v3), (5, .int v5)] [] := by
  intro n
  induction n with
  | zero => intro v0 v3 v5 m kv0 h; exact h.elim
  | succ n ih =>
    intro v0 v3 v5 m kv0 h
    unfold wb_X12_addOutcome_9 at h
    refine ct_iload C dX12_addOutcome_9 2 rfl ?_
    refine ct_aload_n C dX12_addOutcome_11 0 rfl rfl ?_
    refine gf_X12_221 C dX12_addOutcome_12 kv0 ?_
    refine ct_icmp_ge C dX12_addOutcome_15 37 (by decide) (fun hc1 => ?_) (fun hc1 => ?_)
    · have h := h.1 hc1
      refine ct_aload_n C dX12_addOutcome_37 0 rfl rfl ?_
      refine gf_X12_82 C dX12_addOutcome_38 kv0 ?_
      have hk2 := ct_t12_32 kv0
      refine ct_aload_n C dX12_addOutcome_41 0 rfl rfl ?_
      refine gf_X12_221 C dX12_addOutcome_42 kv0 ?_
      refine ct_lload_n C dX12_addOutcome_45 1 rfl rfl ?_
      refine ct_last C dX12_addOutcome_46 hk2 h.1 ?_
      have h := h.2
      refine ct_mem (fun m3 em3 => ?_)
      have h := h m3 em3
      refine ct_aload_n C dX12_addOutcome_47 0 rfl rfl ?_
      refine ct_dup C dX12_addOutcome_48 rfl ?_
      refine gf_X12_221 C dX12_addOutcome_49 kv0 ?_
      refine ct_iconst C dX12_addOutcome_52 (1 : Int32) (by decide) ?_
      refine ct_iadd C dX12_addOutcome_53 ?_
      refine pf_X12_221 C dX12_addOutcome_54 kv0 ?_
      refine ct_mem (fun m4 em4 => ?_)
      have h := h m4 em4
      exact ct_vret C hr hlk dX12_addOutcome_57 h
    · have h := h.2 hc1
      refine ct_aload_n C dX12_addOutcome_18 0 rfl rfl ?_
      refine gf_X12_82 C dX12_addOutcome_19 kv0 ?_
      have hk5 := ct_t12_32 kv0
      refine ct_iload C dX12_addOutcome_22 2 rfl ?_
      refine ct_lald C dX12_addOutcome_24 hk5 h.1 ?_
      have h := h.2
      refine ct_lload_n C dX12_addOutcome_25 1 rfl rfl ?_
      refine ct_lcmp C dX12_addOutcome_26 ?_
      refine ct_if_ne C dX12_addOutcome_27 31 (by decide) (fun hc6 => ?_) (fun hc6 => ?_)
      · have h := h.1 hc6
        obtain ⟨x7, ex7⟩ : ∃ z : Int32, z = v5 + (1 : Int32) := ⟨_, rfl⟩
        have h := h x7 ex7
        refine ct_iinc (k := 2) (v := x7) C dX12_addOutcome_31 [(5, .int x7), (0, .ref (o + v0)), (3, .long v3)] rfl (by rw [ex7]; rfl) (by decide) rfl ?_
        refine ct_goto C dX12_addOutcome_34 9 (by decide) ?_
        refine ct_sub [1, 2, 0] [(0, .ref (o + v0)), (3, .long v3), (5, .int x7)] rfl ?_
        exact ih _ _ _ _ kv0 h
      · have h := h.2 hc6
        exact ct_vret C hr hlk dX12_addOutcome_30 h
set_option maxHeartbeats 4000000 in
set_option maxRecDepth 100000 in
theorem c_X12_addOutcome (l : Launch) (D : va_G) (cy : Nat → ClassId) (o : Nat) {a0 : Nat} {p1 : Int64} {Q : ct_M → Prop} {m : ct_M} (ka0 : ct_K 12 a0) (h : wp_X12_addOutcome a0 p1 Q m) : Met l yX12_addOutcome (ct_ws yX12_addOutcome cX12_addOutcome 6 none) rm_X12_addOutcome (va_Pc [.ref (o + a0), .long p1] (ct_P D cy o ct_NN m)) (va_Qv Q (ct_P D cy o ct_NN) (fun q => o ≤ q)) 0 0 (fun q => o ≤ q) := by
  refine ct_met l D cy o ct_NN m (by decide) (Nat.le_of_ble_eq_true rfl) (fun p e s mth args below meth c C hr hlk => ?_)
  refine ct_sub [0, 1] [(0, .ref (o + a0)), (1, .long p1)] rfl ?_
  unfold wp_X12_addOutcome at h
  refine ct_lload_n C dX12_addOutcome_0 1 rfl rfl ?_
  refine ct_ldc2 C dX12_addOutcome_1 mw_565 ?_
  refine ct_land C dX12_addOutcome_4 ?_
  refine ct_topl (fun x1 ex1 => ?_)
  have h := h x1 ex1
  refine ct_lstore_n C dX12_addOutcome_5 [(3, .long x1), (0, .ref (o + a0)), (1, .long p1)] rfl (by decide) rfl ?_
  refine ct_iconst C dX12_addOutcome_6 (0 : Int32) (by decide) ?_
  refine ct_istore C dX12_addOutcome_7 [(5, .int (0 : Int32)), (3, .long x1), (0, .ref (o + a0)), (1, .long p1)] (by decide) rfl ?_
  refine ct_sub [2, 1, 0] [(0, .ref (o + a0)), (3, .long x1), (5, .int (0 : Int32))] rfl ?_
  obtain ⟨n2, h⟩ := h
  exact kb_X12_addOutcome_9 C hr hlk  n2 _ _ _ _ ka0 h
abbrev rm_X12_schedule : Room := { frames := 7, cells := 0, slots := 0, locals := 157 }
set_option maxHeartbeats 4000000 in
set_option maxRecDepth 100000 in
theorem kb_X12_schedule_214 {p : Program} {l : Launch} {e : Env} {s : State} {mth : MethodId} {args : Array Value} {below : List Frame} {meth : Method} {c : Code} {D : va_G} {cy : Nat → ClassId} {o : Nat} {Q : ct_M → Prop} {v0 : Nat} {v4 : Int32} {v5 : Int32} {m : ct_M} (C : ct_Cx p s mth c cX12_schedule 8 args RX12 D cy) (hr : meth.sig.returnType = none) (hlk : meth.locks = false) (kv0 : ct_K 12 v0) (h : wb_X12_schedule_214 Q v0 v4 v5 m) : ct_J p l e rm_X12_schedule s mth args below meth c 8 D cy o ct_NN 0 0 (MQ below (va_Qv Q (ct_P D cy o ct_NN) (fun q => o ≤ q)) args s 0 0 (fun q => o ≤ q)) m 214 [(0, .ref (o + v0)), (4, .int v4), (5, .int v5)] [] := by
  unfold wb_X12_schedule_214 at h
  refine ct_aload_n C dX12_schedule_214 0 rfl rfl ?_
  refine ct_aload_n C dX12_schedule_215 0 rfl rfl ?_
  refine gf_X12_35 C dX12_schedule_216 kv0 ?_
  have hk1 := ct_t12_11 kv0
  refine ct_iload C dX12_schedule_219 1 rfl ?_
  refine ct_iload C dX12_schedule_221 2 rfl ?_
  refine ct_callSl (As := [.ref (o + (v0 + 8)), .int v4, .int v5]) C (c_X12_keyOf l D cy o hk1 h) kv_X12_235 rfl rfl (Nat.le_of_ble_eq_true rfl) ⟨rfl, rfl, Nat.le_of_ble_eq_true rfl, Nat.le_of_ble_eq_true rfl⟩ ⟨Nat.zero_le _, Nat.zero_le _⟩ dX12_schedule_223 (fun r3 m2 h => ?_)
  refine ct_callVv (As := [.long r3]) (T := TX12) C (c_X12_addKey l D cy o kv0 h) kv_X12_239 kv0.1 (ct_E12 kv0) rfl rfl rfl (Nat.le_of_ble_eq_true rfl) ⟨rfl, rfl, Nat.le_of_ble_eq_true rfl, Nat.le_of_ble_eq_true rfl⟩ ⟨Nat.zero_le _, Nat.zero_le _⟩ dX12_schedule_226 (fun m4 h => ?_)
  exact ct_vret C hr hlk dX12_schedule_229 h
set_option maxHeartbeats 4000000 in
set_option maxRecDepth 100000 in
theorem kb_X12_schedule_184 {p : Program} {l : Launch} {e : Env} {s : State} {mth : MethodId} {args : Array Value} {below : List Frame} {meth : Method} {c : Code} {D : va_G} {cy : Nat → ClassId} {o : Nat} {Q : ct_M → Prop} {v0 : Nat} {v5 : Int32} {s0 : Int32} {m : ct_M} (C : ct_Cx p s mth c cX12_schedule 8 args RX12 D cy) (hr : meth.sig.returnType = none) (hlk : meth.locks = false) (kv0 : ct_K 12 v0) (h : wb_X12_schedule_184 Q v0 v5 s0 m) : ct_J p l e rm_X12_schedule s mth args below meth c 8 D cy o ct_NN 0 0 (MQ below (va_Qv Q (ct_P D cy o ct_NN) (fun q => o ≤ q)) args s 0 0 (fun q => o ≤ q)) m 184 [(0, .ref (o + v0)), (5, .int v5)] [.int s0] := by
  unfold wb_X12_schedule_184 at h
  refine ct_istore C dX12_schedule_184 [(4, .int s0), (0, .ref (o + v0)), (5, .int v5)] (by decide) rfl ?_
  refine ct_goto C dX12_schedule_186 214 (by decide) ?_
  refine ct_sub [1, 0, 2] [(0, .ref (o + v0)), (4, .int s0), (5, .int v5)] rfl ?_
  exact kb_X12_schedule_214 C hr hlk  kv0 h
set_option maxHeartbeats 4000000 in
set_option maxRecDepth 100000 in
theorem kb_X12_schedule_146 {p : Program} {l : Launch} {e : Env} {s : State} {mth : MethodId} {args : Array Value} {below : List Frame} {meth : Method} {c : Code} {D : va_G} {cy : Nat → ClassId} {o : Nat} {Q : ct_M → Prop} (C : ct_Cx p s mth c cX12_schedule 8 args RX12 D cy) (hr : meth.sig.returnType = none) (hlk : meth.locks = false) : ∀ (n : Nat) (v0 : Nat) (v3 : Int32) (v4 : Int32) (v5 : Int32) (v6 : Int32) (m : ct_M) (kv0 : ct_K 12 v0), wb_X12_schedule_146 Q n v0 v3 v4 v5 v6 m → ct_J p l e rm_X12_schedule s mth args below meth c 8 D cy o ct_NN 0 0 (MQ below (va_Qv Q (ct_P D cy o ct_NN) (fun q => o ≤ q)) args s 0 0 (fun q => o ≤ q)) m 146 [(0, .ref (o + v0)), (3, .int v3), (4, .int v4), (5, .int v5), (6, .int v6)] [] := by
  intro n
  induction n with
  | zero => intro v0 v3 v4 v5 v6 m kv0 h; exact h.elim
  | succ n ih =>
    intro v0 v3 v4 v5 v6 m kv0 h
    unfold wb_X12_schedule_146 at h
    refine ct_iload C dX12_schedule_146 4 rfl ?_
    refine ct_if_ne C dX12_schedule_148 165 (by decide) (fun hc1 => ?_) (fun hc1 => ?_)
    · have h := h.1 hc1
      refine ct_iload C dX12_schedule_165 4 rfl ?_
      refine ct_iconst C dX12_schedule_167 (1 : Int32) (by decide) ?_
      refine ct_icmp_ne C dX12_schedule_168 189 (by decide) (fun hc2 => ?_) (fun hc2 => ?_)
      · have h := h.1 hc2
        refine ct_iload C dX12_schedule_189 4 rfl ?_
        refine ct_iconst C dX12_schedule_191 (3 : Int32) (by decide) ?_
        refine ct_icmp_ne C dX12_schedule_192 206 (by decide) (fun hc3 => ?_) (fun hc3 => ?_)
        · have h := h.1 hc3
          refine ct_iload C dX12_schedule_206 3 rfl ?_
          refine ct_iconst C dX12_schedule_208 (1 : Int32) (by decide) ?_
          refine ct_iload_n C dX12_schedule_209 1 rfl rfl ?_
          refine ct_ishl C dX12_schedule_210 ?_
          refine ct_ior C dX12_schedule_211 ?_
          refine ct_topi (fun x4 ex4 => ?_)
          have h := h x4 ex4
          refine ct_istore C dX12_schedule_212 [(5, .int x4), (0, .ref (o + v0)), (3, .int v3), (4, .int v4), (6, .int v6)] (by decide) rfl ?_
          refine ct_sub [1, 3, 0] [(0, .ref (o + v0)), (4, .int v4), (5, .int x4)] rfl ?_
          exact kb_X12_schedule_214 C hr hlk  kv0 h
        · have h := h.2 hc3
          refine ct_iload C dX12_schedule_195 2 rfl ?_
          refine ct_iconst C dX12_schedule_197 (1 : Int32) (by decide) ?_
          refine ct_iload_n C dX12_schedule_198 1 rfl rfl ?_
          refine ct_ishl C dX12_schedule_199 ?_
          refine ct_ior C dX12_schedule_200 ?_
          refine ct_topi (fun x5 ex5 => ?_)
          have h := h x5 ex5
          refine ct_istore C dX12_schedule_201 [(4, .int x5), (0, .ref (o + v0)), (3, .int v3), (5, .int v5), (6, .int v6)] (by decide) rfl ?_
          refine ct_goto C dX12_schedule_203 214 (by decide) ?_
          refine ct_sub [1, 0, 3] [(0, .ref (o + v0)), (4, .int x5), (5, .int v5)] rfl ?_
          exact kb_X12_schedule_214 C hr hlk  kv0 h
      · have h := h.2 hc2
        refine ct_aload_n C dX12_schedule_171 0 rfl rfl ?_
        refine gf_X12_116 C dX12_schedule_172 kv0 ?_
        refine ct_if_eq C dX12_schedule_175 182 (by decide) (fun hc6 => ?_) (fun hc6 => ?_)
        · have h := h.1 hc6
          refine ct_iload C dX12_schedule_182 2 rfl ?_
          refine ct_sub [0, 3] [(0, .ref (o + v0)), (5, .int v5)] rfl ?_
          exact kb_X12_schedule_184 C hr hlk  kv0 h
        · have h := h.2 hc6
          refine ct_iconst C dX12_schedule_178 (0 : Int32) (by decide) ?_
          refine ct_goto C dX12_schedule_179 184 (by decide) ?_
          refine ct_sub [0, 3] [(0, .ref (o + v0)), (5, .int v5)] rfl ?_
          exact kb_X12_schedule_184 C hr hlk  kv0 h
    · have h := h.2 hc1
      refine ct_aload_n C dX12_schedule_151 0 rfl rfl ?_
      refine ct_aload_n C dX12_schedule_152 0 rfl rfl ?_
      refine gf_X12_35 C dX12_schedule_153 kv0 ?_
      have hk7 := ct_t12_11 kv0
      refine ct_iload_n C dX12_schedule_156 1 rfl rfl ?_
      refine ct_callVi (As := [.ref (o + (v0 + 8)), .int v3]) (T := TX12) C (c_X12_stepOn l D cy o kv0 hk7 h) kv_X12_201 kv0.1 (ct_E12 kv0) rfl rfl rfl (Nat.le_of_ble_eq_true rfl) ⟨rfl, rfl, Nat.le_of_ble_eq_true rfl, Nat.le_of_ble_eq_true rfl⟩ ⟨Nat.zero_le _, Nat.zero_le _⟩ dX12_schedule_157 (fun r9 m8 h => ?_)
      refine ct_istore C dX12_schedule_160 [(6, .int r9), (0, .ref (o + v0)), (3, .int v3), (4, .int v4), (5, .int v5)] (by decide) rfl ?_
      refine ct_goto C dX12_schedule_162 146 (by decide) ?_
      refine ct_sub [1, 2, 3, 4, 0] [(0, .ref (o + v0)), (3, .int v3), (4, .int v4), (5, .int v5), (6, .int r9)] rfl ?_
      exact ih _ _ _ _ _ _ kv0 h
set_option maxHeartbeats 4000000 in
set_option maxRecDepth 100000 in
theorem kb_X12_schedule_107 {p : Program} {l : Launch} {e : Env} {s : State} {mth : MethodId} {args : Array Value} {below : List Frame} {meth : Method} {c : Code} {D : va_G} {cy : Nat → ClassId} {o : Nat} {Q : ct_M → Prop} {K49 : Nat → Int64 → Int32 → Int32 → Int32 → Int32 → ct_M → Prop} {v0 : Nat} {v1 : Int64} {v3 : Int32} {v4 : Int32} {v6 : Int32} {v7 : Int32} {s0 : Int32} {s1 : Int32} {m : ct_M} (C : ct_Cx p s mth c cX12_schedule 8 args RX12 D cy) (hr : meth.sig.returnType = none) (hlk : meth.locks = false) (hK49 : ∀ (v0 : Nat) (v1 : Int64) (v3 : Int32) (v4 : Int32) (v5 : Int32) (v6 : Int32) (m : ct_M), ct_K 12 v0 → K49 v0 v1 v3 v4 v5 v6 m → ct_J p l e rm_X12_schedule s mth args below meth c 8 D cy o ct_NN 0 0 (MQ below (va_Qv Q (ct_P D cy o ct_NN) (fun q => o ≤ q)) args s 0 0 (fun q => o ≤ q)) m 49 [(0, .ref (o + v0)), (1, .long v1), (3, .int v3), (4, .int v4), (5, .int v5), (6, .int v6)] []) (kv0 : ct_K 12 v0) (h : wb_X12_schedule_107 K49 Q v0 v1 v3 v4 v6 v7 s0 s1 m) : ct_J p l e rm_X12_schedule s mth args below meth c 8 D cy o ct_NN 0 0 (MQ below (va_Qv Q (ct_P D cy o ct_NN) (fun q => o ≤ q)) args s 0 0 (fun q => o ≤ q)) m 107 [(0, .ref (o + v0)), (1, .long v1), (3, .int v3), (4, .int v4), (6, .int v6), (7, .int v7)] [.int s0, .int s1] := by
  unfold wb_X12_schedule_107 at h
  refine ct_ior C dX12_schedule_107 ?_
  refine ct_topi (fun x1 ex1 => ?_)
  have h := h x1 ex1
  refine ct_istore C dX12_schedule_108 [(5, .int x1), (0, .ref (o + v0)), (1, .long v1), (3, .int v3), (4, .int v4), (6, .int v6), (7, .int v7)] (by decide) rfl ?_
  refine ct_aload_n C dX12_schedule_110 1 rfl rfl ?_
  refine gf_X12_35 C dX12_schedule_111 kv0 ?_
  have hk2 := ct_t12_11 kv0
  refine ct_iload C dX12_schedule_114 5 rfl ?_
  refine ct_iconst C dX12_schedule_116 (0 : Int32) (by decide) ?_
  refine ct_callSv (As := [.ref (o + (v0 + 8)), .int v6, .int (0 : Int32)]) C (c_X12_stop l D cy o hk2 h) kv_X12_96 rfl rfl (Nat.le_of_ble_eq_true rfl) ⟨rfl, rfl, Nat.le_of_ble_eq_true rfl, Nat.le_of_ble_eq_true rfl⟩ ⟨Nat.zero_le _, Nat.zero_le _⟩ dX12_schedule_117 (fun m3 h => ?_)
  refine ct_aload_n C dX12_schedule_120 1 rfl rfl ?_
  refine gf_X12_35 C dX12_schedule_121 kv0 ?_
  refine ct_iload C dX12_schedule_124 5 rfl ?_
  refine ct_callSi (As := [.int v6]) C (c_X12_at l D cy o  h) kv_X12_88 rfl rfl (Nat.le_of_ble_eq_true rfl) ⟨rfl, rfl, Nat.le_of_ble_eq_true rfl, Nat.le_of_ble_eq_true rfl⟩ ⟨Nat.zero_le _, Nat.zero_le _⟩ dX12_schedule_126 (fun r5 m4 h => ?_)
  refine ct_bipush C dX12_schedule_129 (47 : Int32) (by decide) ?_
  refine ct_iadd C dX12_schedule_131 ?_
  refine ct_iload C dX12_schedule_132 6 rfl ?_
  refine ct_iconst C dX12_schedule_134 (4 : Int32) (by decide) ?_
  refine ct_idiv C dX12_schedule_135 (by decide) ?_
  refine ct_iast C dX12_schedule_136 hk2 h.1 ?_
  have h := h.2
  refine ct_mem (fun m6 em6 => ?_)
  have h := h m6 em6
  obtain ⟨x7, ex7⟩ : ∃ z : Int32, z = v6 + (1 : Int32) := ⟨_, rfl⟩
  have h := h x7 ex7
  refine ct_iinc (k := 5) (v := x7) C dX12_schedule_137 [(6, .int x7), (5, .int x1), (0, .ref (o + v0)), (1, .long v1), (3, .int v3), (4, .int v4), (7, .int v7)] rfl (by rw [ex7]; rfl) (by decide) rfl ?_
  refine ct_goto C dX12_schedule_140 49 (by decide) ?_
  refine ct_sub [2, 3, 4, 5, 1, 0] [(0, .ref (o + v0)), (1, .long v1), (3, .int v3), (4, .int v4), (5, .int x1), (6, .int x7)] rfl ?_
  exact hK49 _ _ _ _ _ _ _ kv0 h
set_option maxHeartbeats 4000000 in
set_option maxRecDepth 100000 in
theorem kb_X12_schedule_84 {p : Program} {l : Launch} {e : Env} {s : State} {mth : MethodId} {args : Array Value} {below : List Frame} {meth : Method} {c : Code} {D : va_G} {cy : Nat → ClassId} {o : Nat} {Q : ct_M → Prop} {K49 : Nat → Int64 → Int32 → Int32 → Int32 → Int32 → ct_M → Prop} {v0 : Nat} {v1 : Int64} {v3 : Int32} {v5 : Int32} {v6 : Int32} {v7 : Int32} {s0 : Int32} {s1 : Int32} {m : ct_M} (C : ct_Cx p s mth c cX12_schedule 8 args RX12 D cy) (hr : meth.sig.returnType = none) (hlk : meth.locks = false) (hK49 : ∀ (v0 : Nat) (v1 : Int64) (v3 : Int32) (v4 : Int32) (v5 : Int32) (v6 : Int32) (m : ct_M), ct_K 12 v0 → K49 v0 v1 v3 v4 v5 v6 m → ct_J p l e rm_X12_schedule s mth args below meth c 8 D cy o ct_NN 0 0 (MQ below (va_Qv Q (ct_P D cy o ct_NN) (fun q => o ≤ q)) args s 0 0 (fun q => o ≤ q)) m 49 [(0, .ref (o + v0)), (1, .long v1), (3, .int v3), (4, .int v4), (5, .int v5), (6, .int v6)] []) (kv0 : ct_K 12 v0) (h : wb_X12_schedule_84 K49 Q v0 v1 v3 v5 v6 v7 s0 s1 m) : ct_J p l e rm_X12_schedule s mth args below meth c 8 D cy o ct_NN 0 0 (MQ below (va_Qv Q (ct_P D cy o ct_NN) (fun q => o ≤ q)) args s 0 0 (fun q => o ≤ q)) m 84 [(0, .ref (o + v0)), (1, .long v1), (3, .int v3), (5, .int v5), (6, .int v6), (7, .int v7)] [.int s0, .int s1] := by
  unfold wb_X12_schedule_84 at h
  refine ct_ior C dX12_schedule_84 ?_
  refine ct_topi (fun x1 ex1 => ?_)
  have h := h x1 ex1
  refine ct_istore C dX12_schedule_85 [(4, .int x1), (0, .ref (o + v0)), (1, .long v1), (3, .int v3), (5, .int v5), (6, .int v6), (7, .int v7)] (by decide) rfl ?_
  refine ct_iload C dX12_schedule_87 4 rfl ?_
  refine ct_iload C dX12_schedule_89 6 rfl ?_
  refine ct_iconst C dX12_schedule_91 (2 : Int32) (by decide) ?_
  refine ct_idiv C dX12_schedule_92 (by decide) ?_
  refine ct_iconst C dX12_schedule_93 (2 : Int32) (by decide) ?_
  refine ct_irem C dX12_schedule_94 (by decide) ?_
  refine ct_iconst C dX12_schedule_95 (1 : Int32) (by decide) ?_
  refine ct_icmp_ne C dX12_schedule_96 106 (by decide) (fun hc2 => ?_) (fun hc2 => ?_)
  · have h := h.1 hc2
    refine ct_iconst C dX12_schedule_106 (0 : Int32) (by decide) ?_
    refine ct_sub [1, 2, 3, 0, 5, 6] [(0, .ref (o + v0)), (1, .long v1), (3, .int v3), (4, .int x1), (6, .int v6), (7, .int v7)] rfl ?_
    exact kb_X12_schedule_107 C hr hlk hK49 kv0 h
  · have h := h.2 hc2
    refine ct_iconst C dX12_schedule_99 (1 : Int32) (by decide) ?_
    refine ct_iload C dX12_schedule_100 5 rfl ?_
    refine ct_ishl C dX12_schedule_102 ?_
    refine ct_goto C dX12_schedule_103 107 (by decide) ?_
    refine ct_sub [1, 2, 3, 0, 5, 6] [(0, .ref (o + v0)), (1, .long v1), (3, .int v3), (4, .int x1), (6, .int v6), (7, .int v7)] rfl ?_
    exact kb_X12_schedule_107 C hr hlk hK49 kv0 h
set_option maxHeartbeats 4000000 in
set_option maxRecDepth 100000 in
theorem kb_X12_schedule_49 {p : Program} {l : Launch} {e : Env} {s : State} {mth : MethodId} {args : Array Value} {below : List Frame} {meth : Method} {c : Code} {D : va_G} {cy : Nat → ClassId} {o : Nat} {Q : ct_M → Prop} (C : ct_Cx p s mth c cX12_schedule 8 args RX12 D cy) (hr : meth.sig.returnType = none) (hlk : meth.locks = false) : ∀ (n : Nat) (v0 : Nat) (v1 : Int64) (v3 : Int32) (v4 : Int32) (v5 : Int32) (v6 : Int32) (m : ct_M) (kv0 : ct_K 12 v0), wb_X12_schedule_49 Q n v0 v1 v3 v4 v5 v6 m → ct_J p l e rm_X12_schedule s mth args below meth c 8 D cy o ct_NN 0 0 (MQ below (va_Qv Q (ct_P D cy o ct_NN) (fun q => o ≤ q)) args s 0 0 (fun q => o ≤ q)) m 49 [(0, .ref (o + v0)), (1, .long v1), (3, .int v3), (4, .int v4), (5, .int v5), (6, .int v6)] [] := by
  intro n
  induction n with
  | zero => intro v0 v1 v3 v4 v5 v6 m kv0 h; exact h.elim
  | succ n ih =>
    intro v0 v1 v3 v4 v5 v6 m kv0 h
    unfold wb_X12_schedule_49 at h
    refine ct_iload C dX12_schedule_49 5 rfl ?_
    refine ct_aload_n C dX12_schedule_51 0 rfl rfl ?_
    refine gf_X12_13 C dX12_schedule_52 kv0 ?_
    refine ct_icmp_ge C dX12_schedule_55 143 (by decide) (fun hc1 => ?_) (fun hc1 => ?_)
    · have h := h.1 hc1
      refine ct_iconst C dX12_schedule_143 (0 : Int32) (by decide) ?_
      refine ct_istore C dX12_schedule_144 [(6, .int (0 : Int32)), (0, .ref (o + v0)), (1, .long v1), (3, .int v3), (4, .int v4), (5, .int v5)] (by decide) rfl ?_
      refine ct_sub [1, 3, 4, 5, 0] [(0, .ref (o + v0)), (3, .int v3), (4, .int v4), (5, .int v5), (6, .int (0 : Int32))] rfl ?_
      obtain ⟨n2, h⟩ := h
      exact kb_X12_schedule_146 C hr hlk  n2 _ _ _ _ _ _ kv0 h
    · have h := h.2 hc1
      refine ct_lload_n C dX12_schedule_58 1 rfl rfl ?_
      refine ct_iload C dX12_schedule_59 5 rfl ?_
      refine ct_callSi (As := [.long v1, .int v6]) C (c_X12_threadBits l D cy o  h) kv_X12_232 rfl rfl (Nat.le_of_ble_eq_true rfl) ⟨rfl, rfl, Nat.le_of_ble_eq_true rfl, Nat.le_of_ble_eq_true rfl⟩ ⟨Nat.zero_le _, Nat.zero_le _⟩ dX12_schedule_61 (fun r4 m3 h => ?_)
      refine ct_istore C dX12_schedule_64 [(7, .int r4), (0, .ref (o + v0)), (1, .long v1), (3, .int v3), (4, .int v4), (5, .int v5), (6, .int v6)] (by decide) rfl ?_
      refine ct_iload C dX12_schedule_66 4 rfl ?_
      refine ct_iload C dX12_schedule_68 0 rfl ?_
      refine ct_iconst C dX12_schedule_70 (2 : Int32) (by decide) ?_
      refine ct_irem C dX12_schedule_71 (by decide) ?_
      refine ct_iconst C dX12_schedule_72 (1 : Int32) (by decide) ?_
      refine ct_icmp_ne C dX12_schedule_73 83 (by decide) (fun hc5 => ?_) (fun hc5 => ?_)
      · have h := h.1 hc5
        refine ct_iconst C dX12_schedule_83 (0 : Int32) (by decide) ?_
        refine ct_sub [1, 2, 3, 5, 6, 0] [(0, .ref (o + v0)), (1, .long v1), (3, .int v3), (5, .int v5), (6, .int v6), (7, .int r4)] rfl ?_
        exact kb_X12_schedule_84 C hr hlk ih kv0 h
      · have h := h.2 hc5
        refine ct_iconst C dX12_schedule_76 (1 : Int32) (by decide) ?_
        refine ct_iload C dX12_schedule_77 6 rfl ?_
        refine ct_ishl C dX12_schedule_79 ?_
        refine ct_goto C dX12_schedule_80 84 (by decide) ?_
        refine ct_sub [1, 2, 3, 5, 6, 0] [(0, .ref (o + v0)), (1, .long v1), (3, .int v3), (5, .int v5), (6, .int v6), (7, .int r4)] rfl ?_
        exact kb_X12_schedule_84 C hr hlk ih kv0 h
set_option maxHeartbeats 4000000 in
set_option maxRecDepth 100000 in
theorem kb_X12_schedule_20 {p : Program} {l : Launch} {e : Env} {s : State} {mth : MethodId} {args : Array Value} {below : List Frame} {meth : Method} {c : Code} {D : va_G} {cy : Nat → ClassId} {o : Nat} {Q : ct_M → Prop} (C : ct_Cx p s mth c cX12_schedule 8 args RX12 D cy) (hr : meth.sig.returnType = none) (hlk : meth.locks = false) : ∀ (n : Nat) (v0 : Nat) (v1 : Int64) (v3 : Int32) (v4 : Int32) (v5 : Int32) (v6 : Int32) (m : ct_M) (kv0 : ct_K 12 v0), wb_X12_schedule_20 Q n v0 v1 v3 v4 v5 v6 m → ct_J p l e rm_X12_schedule s mth args below meth c 8 D cy o ct_NN 0 0 (MQ below (va_Qv Q (ct_P D cy o ct_NN) (fun q => o ≤ q)) args s 0 0 (fun q => o ≤ q)) m 20 [(0, .ref (o + v0)), (1, .long v1), (3, .int v3), (4, .int v4), (5, .int v5), (6, .int v6)] [] := by
  intro n
  induction n with
  | zero => intro v0 v1 v3 v4 v5 v6 m kv0 h; exact h.elim
  | succ n ih =>
    intro v0 v1 v3 v4 v5 v6 m kv0 h
    unfold wb_X12_schedule_20 at h
    refine ct_iload C dX12_schedule_20 5 rfl ?_
    refine ct_bipush C dX12_schedule_22 (6 : Int32) (by decide) ?_
    refine ct_icmp_ge C dX12_schedule_24 46 (by decide) (fun hc1 => ?_) (fun hc1 => ?_)
    · have h := h.1 hc1
      refine ct_iconst C dX12_schedule_46 (0 : Int32) (by decide) ?_
      refine ct_istore C dX12_schedule_47 [(6, .int (0 : Int32)), (0, .ref (o + v0)), (1, .long v1), (3, .int v3), (4, .int v4), (5, .int v5)] (by decide) rfl ?_
      refine ct_sub [1, 2, 3, 4, 5, 0] [(0, .ref (o + v0)), (1, .long v1), (3, .int v3), (4, .int v4), (5, .int v5), (6, .int (0 : Int32))] rfl ?_
      obtain ⟨n2, h⟩ := h
      exact kb_X12_schedule_49 C hr hlk  n2 _ _ _ _ _ _ _ kv0 h
    · have h := h.2 hc1
      refine ct_aload_n C dX12_schedule_27 0 rfl rfl ?_
      refine gf_X12_35 C dX12_schedule_28 kv0 ?_
      have hk3 := ct_t12_11 kv0
      refine ct_iload C dX12_schedule_31 5 rfl ?_
      refine ct_lload_n C dX12_schedule_33 1 rfl rfl ?_
      refine ct_iload C dX12_schedule_34 5 rfl ?_
      refine ct_callSi (As := [.long v1, .int v6]) C (c_X12_valueIn l D cy o  h) kv_X12_228 rfl rfl (Nat.le_of_ble_eq_true rfl) ⟨rfl, rfl, Nat.le_of_ble_eq_true rfl, Nat.le_of_ble_eq_true rfl⟩ ⟨Nat.zero_le _, Nat.zero_le _⟩ dX12_schedule_36 (fun r5 m4 h => ?_)
      refine ct_iast C dX12_schedule_39 hk3 h.1 ?_
      have h := h.2
      refine ct_mem (fun m6 em6 => ?_)
      have h := h m6 em6
      obtain ⟨x7, ex7⟩ : ∃ z : Int32, z = v6 + (1 : Int32) := ⟨_, rfl⟩
      have h := h x7 ex7
      refine ct_iinc (k := 5) (v := x7) C dX12_schedule_40 [(6, .int x7), (0, .ref (o + v0)), (1, .long v1), (3, .int v3), (4, .int v4), (5, .int v5)] rfl (by rw [ex7]; rfl) (by decide) rfl ?_
      refine ct_goto C dX12_schedule_43 20 (by decide) ?_
      refine ct_sub [1, 2, 3, 4, 5, 0] [(0, .ref (o + v0)), (1, .long v1), (3, .int v3), (4, .int v4), (5, .int v5), (6, .int x7)] rfl ?_
      exact ih _ _ _ _ _ _ _ kv0 h
set_option maxHeartbeats 4000000 in
set_option maxRecDepth 100000 in
theorem c_X12_schedule (l : Launch) (D : va_G) (cy : Nat → ClassId) (o : Nat) {a0 : Nat} {p1 : Int64} {p3 : Int32} {Q : ct_M → Prop} {m : ct_M} (ka0 : ct_K 12 a0) (h : wp_X12_schedule a0 p1 p3 Q m) : Met l yX12_schedule (ct_ws yX12_schedule cX12_schedule 8 none) rm_X12_schedule (va_Pc [.ref (o + a0), .long p1, .int p3] (ct_P D cy o ct_NN m)) (va_Qv Q (ct_P D cy o ct_NN) (fun q => o ≤ q)) 0 0 (fun q => o ≤ q) := by
  refine ct_met l D cy o ct_NN m (by decide) (Nat.le_of_ble_eq_true rfl) (fun p e s mth args below meth c C hr hlk => ?_)
  refine ct_sub [0, 1, 2] [(0, .ref (o + a0)), (1, .long p1), (3, .int p3)] rfl ?_
  unfold wp_X12_schedule at h
  refine ct_iconst C dX12_schedule_0 (0 : Int32) (by decide) ?_
  refine ct_istore C dX12_schedule_1 [(4, .int (0 : Int32)), (0, .ref (o + a0)), (1, .long p1), (3, .int p3)] (by decide) rfl ?_
  refine ct_iconst C dX12_schedule_3 (0 : Int32) (by decide) ?_
  refine ct_istore C dX12_schedule_4 [(5, .int (0 : Int32)), (4, .int (0 : Int32)), (0, .ref (o + a0)), (1, .long p1), (3, .int p3)] (by decide) rfl ?_
  refine ct_aload_n C dX12_schedule_6 2 rfl rfl ?_
  refine gf_X12_32 C dX12_schedule_7 ka0 ?_
  have hk1 := ct_t12_10 ka0
  refine ct_aload_n C dX12_schedule_10 2 rfl rfl ?_
  refine gf_X12_35 C dX12_schedule_11 ka0 ?_
  have hk2 := ct_t12_11 ka0
  refine ct_callSv (As := [.ref (o + (a0 + 7)), .ref (o + (a0 + 8))]) C (c_X12_assign l D cy o hk1 hk2 h) kv_X12_224 rfl rfl (Nat.le_of_ble_eq_true rfl) ⟨rfl, rfl, Nat.le_of_ble_eq_true rfl, Nat.le_of_ble_eq_true rfl⟩ ⟨Nat.zero_le _, Nat.zero_le _⟩ dX12_schedule_14 (fun m3 h => ?_)
  refine ct_iconst C dX12_schedule_17 (0 : Int32) (by decide) ?_
  refine ct_istore C dX12_schedule_18 [(6, .int (0 : Int32)), (5, .int (0 : Int32)), (4, .int (0 : Int32)), (0, .ref (o + a0)), (1, .long p1), (3, .int p3)] (by decide) rfl ?_
  refine ct_sub [3, 4, 5, 2, 1, 0] [(0, .ref (o + a0)), (1, .long p1), (3, .int p3), (4, .int (0 : Int32)), (5, .int (0 : Int32)), (6, .int (0 : Int32))] rfl ?_
  obtain ⟨n4, h⟩ := h
  exact kb_X12_schedule_20 C hr hlk  n4 _ _ _ _ _ _ _ ka0 h
