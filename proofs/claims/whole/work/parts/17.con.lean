abbrev rm_X12_explore : Room := { frames := 8, cells := 0, slots := 0, locals := 184 }
set_option maxHeartbeats 4000000 in
set_option maxRecDepth 100000 in
theorem kb_X12_explore_150 {p : Program} {l : Launch} {e : Env} {s : State} {mth : MethodId} {args : Array Value} {below : List Frame} {meth : Method} {c : Code} {D : va_G} {cy : Nat → ClassId} {o : Nat} {Q : ct_M → Prop} {K68 : Nat → Int32 → ct_M → Prop} {v0 : Nat} {v2 : Int32} {m : ct_M} (C : ct_Cx p s mth c cX12_explore 6 args RX12 D cy) (hr : meth.sig.returnType = none) (hlk : meth.locks = false) (hK68 : ∀ (v0 : Nat) (v2 : Int32) (m : ct_M), ct_K 12 v0 → K68 v0 v2 m → ct_J p l e rm_X12_explore s mth args below meth c 6 D cy o ct_NN 0 0 (MQ below (va_Qv Q (ct_P D cy o ct_NN) (fun q => o ≤ q)) args s 0 0 (fun q => o ≤ q)) m 68 [(0, .ref (o + v0)), (2, .int v2)] []) (kv0 : ct_K 12 v0) (h : wb_X12_explore_150 K68 Q v0 v2 m) : ct_J p l e rm_X12_explore s mth args below meth c 6 D cy o ct_NN 0 0 (MQ below (va_Qv Q (ct_P D cy o ct_NN) (fun q => o ≤ q)) args s 0 0 (fun q => o ≤ q)) m 150 [(0, .ref (o + v0)), (2, .int v2)] [] := by
  unfold wb_X12_explore_150 at h
  obtain ⟨x1, ex1⟩ : ∃ z : Int32, z = v2 + (1 : Int32) := ⟨_, rfl⟩
  have h := h x1 ex1
  refine ct_iinc (k := 1) (v := x1) C dX12_explore_150 [(2, .int x1), (0, .ref (o + v0))] rfl (by rw [ex1]; rfl) (by decide) rfl ?_
  refine ct_goto C dX12_explore_153 68 (by decide) ?_
  refine ct_sub [1, 0] [(0, .ref (o + v0)), (2, .int x1)] rfl ?_
  exact hK68 _ _ _ kv0 h
set_option maxHeartbeats 4000000 in
set_option maxRecDepth 100000 in
theorem kb_X12_explore_130 {p : Program} {l : Launch} {e : Env} {s : State} {mth : MethodId} {args : Array Value} {below : List Frame} {meth : Method} {c : Code} {D : va_G} {cy : Nat → ClassId} {o : Nat} {Q : ct_M → Prop} {K68 : Nat → Int32 → ct_M → Prop} {K81 : Nat → Int32 → Int32 → Int32 → ct_M → Prop} {v0 : Nat} {v2 : Int32} {v3 : Int32} {v4 : Int32} {m : ct_M} (C : ct_Cx p s mth c cX12_explore 6 args RX12 D cy) (hr : meth.sig.returnType = none) (hlk : meth.locks = false) (hK68 : ∀ (v0 : Nat) (v2 : Int32) (m : ct_M), ct_K 12 v0 → K68 v0 v2 m → ct_J p l e rm_X12_explore s mth args below meth c 6 D cy o ct_NN 0 0 (MQ below (va_Qv Q (ct_P D cy o ct_NN) (fun q => o ≤ q)) args s 0 0 (fun q => o ≤ q)) m 68 [(0, .ref (o + v0)), (2, .int v2)] []) (hK81 : ∀ (v0 : Nat) (v2 : Int32) (v3 : Int32) (v4 : Int32) (m : ct_M), ct_K 12 v0 → K81 v0 v2 v3 v4 m → ct_J p l e rm_X12_explore s mth args below meth c 6 D cy o ct_NN 0 0 (MQ below (va_Qv Q (ct_P D cy o ct_NN) (fun q => o ≤ q)) args s 0 0 (fun q => o ≤ q)) m 81 [(0, .ref (o + v0)), (2, .int v2), (3, .int v3), (4, .int v4)] []) (kv0 : ct_K 12 v0) (h : wb_X12_explore_130 K68 K81 Q v0 v2 v3 v4 m) : ct_J p l e rm_X12_explore s mth args below meth c 6 D cy o ct_NN 0 0 (MQ below (va_Qv Q (ct_P D cy o ct_NN) (fun q => o ≤ q)) args s 0 0 (fun q => o ≤ q)) m 130 [(0, .ref (o + v0)), (2, .int v2), (3, .int v3), (4, .int v4)] [] := by
  unfold wb_X12_explore_130 at h
  obtain ⟨x1, ex1⟩ : ∃ z : Int32, z = v4 + (1 : Int32) := ⟨_, rfl⟩
  have h := h x1 ex1
  refine ct_iinc (k := 3) (v := x1) C dX12_explore_130 [(4, .int x1), (0, .ref (o + v0)), (2, .int v2), (3, .int v3)] rfl (by rw [ex1]; rfl) (by decide) rfl ?_
  refine ct_goto C dX12_explore_133 81 (by decide) ?_
  refine ct_sub [1, 2, 3, 0] [(0, .ref (o + v0)), (2, .int v2), (3, .int v3), (4, .int x1)] rfl ?_
  exact hK81 _ _ _ _ _ kv0 h
set_option maxHeartbeats 4000000 in
set_option maxRecDepth 100000 in
theorem kb_X12_explore_81 {p : Program} {l : Launch} {e : Env} {s : State} {mth : MethodId} {args : Array Value} {below : List Frame} {meth : Method} {c : Code} {D : va_G} {cy : Nat → ClassId} {o : Nat} {Q : ct_M → Prop} {K68 : Nat → Int32 → ct_M → Prop} (C : ct_Cx p s mth c cX12_explore 6 args RX12 D cy) (hr : meth.sig.returnType = none) (hlk : meth.locks = false) (hK68 : ∀ (v0 : Nat) (v2 : Int32) (m : ct_M), ct_K 12 v0 → K68 v0 v2 m → ct_J p l e rm_X12_explore s mth args below meth c 6 D cy o ct_NN 0 0 (MQ below (va_Qv Q (ct_P D cy o ct_NN) (fun q => o ≤ q)) args s 0 0 (fun q => o ≤ q)) m 68 [(0, .ref (o + v0)), (2, .int v2)] []) : ∀ (n : Nat) (v0 : Nat) (v2 : Int32) (v3 : Int32) (v4 : Int32) (m : ct_M) (kv0 : ct_K 12 v0), wb_X12_explore_81 K68 Q n v0 v2 v3 v4 m → ct_J p l e rm_X12_explore s mth args below meth c 6 D cy o ct_NN 0 0 (MQ below (va_Qv Q (ct_P D cy o ct_NN) (fun q => o ≤ q)) args s 0 0 (fun q => o ≤ q)) m 81 [(0, .ref (o + v0)), (2, .int v2), (3, .int v3), (4, .int v4)] [] := by
  intro n
  induction n with
  | zero => intro v0 v2 v3 v4 m kv0 h; exact h.elim
  | succ n ih =>
    intro v0 v2 v3 v4 m kv0 h
    unfold wb_X12_explore_81 at h
    refine ct_iload C dX12_explore_81 3 rfl ?_
    refine ct_aload_n C dX12_explore_83 0 rfl rfl ?_
    refine gf_X12_13 C dX12_explore_84 kv0 ?_
    refine ct_icmp_ge C dX12_explore_87 136 (by decide) (fun hc1 => ?_) (fun hc1 => ?_)
    · have h := h.1 hc1
      refine ct_iload_n C dX12_explore_136 2 rfl rfl ?_
      refine ct_if_eq C dX12_explore_137 150 (by decide) (fun hc2 => ?_) (fun hc2 => ?_)
      · have h := h.1 hc2
        refine ct_sub [0, 1] [(0, .ref (o + v0)), (2, .int v2)] rfl ?_
        exact kb_X12_explore_150 C hr hlk hK68 kv0 h
      · have h := h.2 hc2
        refine ct_aload_n C dX12_explore_140 0 rfl rfl ?_
        refine ct_aload_n C dX12_explore_141 0 rfl rfl ?_
        refine gf_X12_78 C dX12_explore_142 kv0 ?_
        have hk3 := ct_t12_30 kv0
        refine ct_iload_n C dX12_explore_145 1 rfl rfl ?_
        refine ct_lald C dX12_explore_146 hk3 h.1 ?_
        have h := h.2
        refine ct_callVv (As := [.long (m.2 (v0 + 22) v2.toNatClampNeg)]) (T := TX12) C (c_X12_addOutcome l D cy o kv0 h) kv_X12_247 kv0.1 (ct_E12 kv0) rfl rfl rfl (Nat.le_of_ble_eq_true rfl) ⟨rfl, rfl, Nat.le_of_ble_eq_true rfl, Nat.le_of_ble_eq_true rfl⟩ ⟨Nat.zero_le _, Nat.zero_le _⟩ dX12_explore_147 (fun m4 h => ?_)
        refine ct_sub [0, 1] [(0, .ref (o + v0)), (2, .int v2)] rfl ?_
        exact kb_X12_explore_150 C hr hlk hK68 kv0 h
    · have h := h.2 hc1
      refine ct_aload_n C dX12_explore_90 0 rfl rfl ?_
      refine gf_X12_78 C dX12_explore_91 kv0 ?_
      have hk5 := ct_t12_30 kv0
      refine ct_iload_n C dX12_explore_94 1 rfl rfl ?_
      refine ct_lald C dX12_explore_95 hk5 h.1 ?_
      have h := h.2
      refine ct_iload C dX12_explore_96 3 rfl ?_
      refine ct_callSi (As := [.long (m.2 (v0 + 22) v2.toNatClampNeg), .int v4]) C (c_X12_threadBits l D cy o  h) kv_X12_232 rfl rfl (Nat.le_of_ble_eq_true rfl) ⟨rfl, rfl, Nat.le_of_ble_eq_true rfl, Nat.le_of_ble_eq_true rfl⟩ ⟨Nat.zero_le _, Nat.zero_le _⟩ dX12_explore_98 (fun r7 m6 h => ?_)
      refine ct_istore C dX12_explore_101 [(5, .int r7), (0, .ref (o + v0)), (2, .int v2), (3, .int v3), (4, .int v4)] (by decide) rfl ?_
      refine ct_iload C dX12_explore_103 0 rfl ?_
      refine ct_iconst C dX12_explore_105 (3 : Int32) (by decide) ?_
      refine ct_icmp_le C dX12_explore_106 130 (by decide) (fun hc8 => ?_) (fun hc8 => ?_)
      · have h := h.1 hc8
        refine ct_sub [1, 2, 3, 4] [(0, .ref (o + v0)), (2, .int v2), (3, .int v3), (4, .int v4)] rfl ?_
        exact kb_X12_explore_130 C hr hlk hK68 ih kv0 h
      · have h := h.2 hc8
        refine ct_iload C dX12_explore_109 0 rfl ?_
        refine ct_iconst C dX12_explore_111 (4 : Int32) (by decide) ?_
        refine ct_irem C dX12_explore_112 (by decide) ?_
        refine ct_if_ne C dX12_explore_113 130 (by decide) (fun hc9 => ?_) (fun hc9 => ?_)
        · have h := h.1 hc9
          refine ct_sub [1, 2, 3, 4] [(0, .ref (o + v0)), (2, .int v2), (3, .int v3), (4, .int v4)] rfl ?_
          exact kb_X12_explore_130 C hr hlk hK68 ih kv0 h
        · have h := h.2 hc9
          refine ct_iconst C dX12_explore_116 (0 : Int32) (by decide) ?_
          refine ct_istore_n C dX12_explore_117 [(3, .int (0 : Int32)), (5, .int r7), (0, .ref (o + v0)), (2, .int v2), (4, .int v4)] rfl (by decide) rfl ?_
          refine ct_aload_n C dX12_explore_118 2 rfl rfl ?_
          refine ct_aload_n C dX12_explore_119 2 rfl rfl ?_
          refine gf_X12_78 C dX12_explore_120 kv0 ?_
          refine ct_iload_n C dX12_explore_123 3 rfl rfl ?_
          refine ct_lald C dX12_explore_124 hk5 h.1 ?_
          have h := h.2
          refine ct_iload C dX12_explore_125 4 rfl ?_
          refine ct_callVv (As := [.long (m6.2 (v0 + 22) v2.toNatClampNeg), .int v4]) (T := TX12) C (c_X12_schedule l D cy o kv0 h) kv_X12_243 kv0.1 (ct_E12 kv0) rfl rfl rfl (Nat.le_of_ble_eq_true rfl) ⟨rfl, rfl, Nat.le_of_ble_eq_true rfl, Nat.le_of_ble_eq_true rfl⟩ ⟨Nat.zero_le _, Nat.zero_le _⟩ dX12_explore_127 (fun m10 h => ?_)
          refine ct_sub [2, 3, 0, 4] [(0, .ref (o + v0)), (2, .int v2), (3, .int (0 : Int32)), (4, .int v4)] rfl ?_
          exact kb_X12_explore_130 C hr hlk hK68 ih kv0 h
set_option maxHeartbeats 4000000 in
set_option maxRecDepth 100000 in
theorem kb_X12_explore_68 {p : Program} {l : Launch} {e : Env} {s : State} {mth : MethodId} {args : Array Value} {below : List Frame} {meth : Method} {c : Code} {D : va_G} {cy : Nat → ClassId} {o : Nat} {Q : ct_M → Prop} (C : ct_Cx p s mth c cX12_explore 6 args RX12 D cy) (hr : meth.sig.returnType = none) (hlk : meth.locks = false) : ∀ (n : Nat) (v0 : Nat) (v2 : Int32) (m : ct_M) (kv0 : ct_K 12 v0), wb_X12_explore_68 Q n v0 v2 m → ct_J p l e rm_X12_explore s mth args below meth c 6 D cy o ct_NN 0 0 (MQ below (va_Qv Q (ct_P D cy o ct_NN) (fun q => o ≤ q)) args s 0 0 (fun q => o ≤ q)) m 68 [(0, .ref (o + v0)), (2, .int v2)] [] := by
  intro n
  induction n with
  | zero => intro v0 v2 m kv0 h; exact h.elim
  | succ n ih =>
    intro v0 v2 m kv0 h
    unfold wb_X12_explore_68 at h
    refine ct_iload_n C dX12_explore_68 1 rfl rfl ?_
    refine ct_aload_n C dX12_explore_69 0 rfl rfl ?_
    refine gf_X12_216 C dX12_explore_70 kv0 ?_
    refine ct_icmp_ge C dX12_explore_73 156 (by decide) (fun hc1 => ?_) (fun hc1 => ?_)
    · have h := h.1 hc1
      exact ct_vret C hr hlk dX12_explore_156 h
    · have h := h.2 hc1
      refine ct_iconst C dX12_explore_76 (1 : Int32) (by decide) ?_
      refine ct_istore_n C dX12_explore_77 [(3, .int (1 : Int32)), (0, .ref (o + v0)), (2, .int v2)] rfl (by decide) rfl ?_
      refine ct_iconst C dX12_explore_78 (0 : Int32) (by decide) ?_
      refine ct_istore C dX12_explore_79 [(4, .int (0 : Int32)), (3, .int (1 : Int32)), (0, .ref (o + v0)), (2, .int v2)] (by decide) rfl ?_
      refine ct_sub [2, 3, 1, 0] [(0, .ref (o + v0)), (2, .int v2), (3, .int (1 : Int32)), (4, .int (0 : Int32))] rfl ?_
      obtain ⟨n2, h⟩ := h
      exact kb_X12_explore_81 C hr hlk ih n2 _ _ _ _ _ kv0 h
set_option maxHeartbeats 4000000 in
set_option maxRecDepth 100000 in
theorem kb_X12_explore_45 {p : Program} {l : Launch} {e : Env} {s : State} {mth : MethodId} {args : Array Value} {below : List Frame} {meth : Method} {c : Code} {D : va_G} {cy : Nat → ClassId} {o : Nat} {Q : ct_M → Prop} {K14 : Nat → Int32 → Int32 → ct_M → Prop} {v0 : Nat} {v2 : Int32} {s0 : Int32} {s1 : Int32} {m : ct_M} (C : ct_Cx p s mth c cX12_explore 6 args RX12 D cy) (hr : meth.sig.returnType = none) (hlk : meth.locks = false) (hK14 : ∀ (v0 : Nat) (v1 : Int32) (v2 : Int32) (m : ct_M), ct_K 12 v0 → K14 v0 v1 v2 m → ct_J p l e rm_X12_explore s mth args below meth c 6 D cy o ct_NN 0 0 (MQ below (va_Qv Q (ct_P D cy o ct_NN) (fun q => o ≤ q)) args s 0 0 (fun q => o ≤ q)) m 14 [(0, .ref (o + v0)), (1, .int v1), (2, .int v2)] []) (kv0 : ct_K 12 v0) (h : wb_X12_explore_45 K14 Q v0 v2 s0 s1 m) : ct_J p l e rm_X12_explore s mth args below meth c 6 D cy o ct_NN 0 0 (MQ below (va_Qv Q (ct_P D cy o ct_NN) (fun q => o ≤ q)) args s 0 0 (fun q => o ≤ q)) m 45 [(0, .ref (o + v0)), (2, .int v2)] [.int s0, .int s1] := by
  unfold wb_X12_explore_45 at h
  refine ct_ior C dX12_explore_45 ?_
  refine ct_topi (fun x1 ex1 => ?_)
  have h := h x1 ex1
  refine ct_istore_n C dX12_explore_46 [(1, .int x1), (0, .ref (o + v0)), (2, .int v2)] rfl (by decide) rfl ?_
  obtain ⟨x2, ex2⟩ : ∃ z : Int32, z = v2 + (1 : Int32) := ⟨_, rfl⟩
  have h := h x2 ex2
  refine ct_iinc (k := 2) (v := x2) C dX12_explore_47 [(2, .int x2), (1, .int x1), (0, .ref (o + v0))] rfl (by rw [ex2]; rfl) (by decide) rfl ?_
  refine ct_goto C dX12_explore_50 14 (by decide) ?_
  refine ct_sub [2, 1, 0] [(0, .ref (o + v0)), (1, .int x1), (2, .int x2)] rfl ?_
  exact hK14 _ _ _ _ kv0 h
set_option maxHeartbeats 4000000 in
set_option maxRecDepth 100000 in
theorem kb_X12_explore_14 {p : Program} {l : Launch} {e : Env} {s : State} {mth : MethodId} {args : Array Value} {below : List Frame} {meth : Method} {c : Code} {D : va_G} {cy : Nat → ClassId} {o : Nat} {Q : ct_M → Prop} (C : ct_Cx p s mth c cX12_explore 6 args RX12 D cy) (hr : meth.sig.returnType = none) (hlk : meth.locks = false) : ∀ (n : Nat) (v0 : Nat) (v1 : Int32) (v2 : Int32) (m : ct_M) (kv0 : ct_K 12 v0), wb_X12_explore_14 Q n v0 v1 v2 m → ct_J p l e rm_X12_explore s mth args below meth c 6 D cy o ct_NN 0 0 (MQ below (va_Qv Q (ct_P D cy o ct_NN) (fun q => o ≤ q)) args s 0 0 (fun q => o ≤ q)) m 14 [(0, .ref (o + v0)), (1, .int v1), (2, .int v2)] [] := by
  intro n
  induction n with
  | zero => intro v0 v1 v2 m kv0 h; exact h.elim
  | succ n ih =>
    intro v0 v1 v2 m kv0 h
    unfold wb_X12_explore_14 at h
    refine ct_iload_n C dX12_explore_14 2 rfl rfl ?_
    refine ct_aload_n C dX12_explore_15 0 rfl rfl ?_
    refine gf_X12_13 C dX12_explore_16 kv0 ?_
    refine ct_icmp_ge C dX12_explore_19 53 (by decide) (fun hc1 => ?_) (fun hc1 => ?_)
    · have h := h.1 hc1
      refine ct_aload_n C dX12_explore_53 0 rfl rfl ?_
      refine ct_aload_n C dX12_explore_54 0 rfl rfl ?_
      refine gf_X12_32 C dX12_explore_55 kv0 ?_
      have hk2 := ct_t12_10 kv0
      refine ct_iconst C dX12_explore_58 (0 : Int32) (by decide) ?_
      refine ct_iload_n C dX12_explore_59 1 rfl rfl ?_
      refine ct_callSl (As := [.ref (o + (v0 + 7)), .int (0 : Int32), .int v1]) C (c_X12_keyOf l D cy o hk2 h) kv_X12_235 rfl rfl (Nat.le_of_ble_eq_true rfl) ⟨rfl, rfl, Nat.le_of_ble_eq_true rfl, Nat.le_of_ble_eq_true rfl⟩ ⟨Nat.zero_le _, Nat.zero_le _⟩ dX12_explore_60 (fun r4 m3 h => ?_)
      refine ct_callVv (As := [.long r4]) (T := TX12) C (c_X12_addKey l D cy o kv0 h) kv_X12_239 kv0.1 (ct_E12 kv0) rfl rfl rfl (Nat.le_of_ble_eq_true rfl) ⟨rfl, rfl, Nat.le_of_ble_eq_true rfl, Nat.le_of_ble_eq_true rfl⟩ ⟨Nat.zero_le _, Nat.zero_le _⟩ dX12_explore_63 (fun m5 h => ?_)
      refine ct_iconst C dX12_explore_66 (0 : Int32) (by decide) ?_
      refine ct_istore_n C dX12_explore_67 [(2, .int (0 : Int32)), (0, .ref (o + v0)), (1, .int v1)] rfl (by decide) rfl ?_
      refine ct_sub [1, 0] [(0, .ref (o + v0)), (2, .int (0 : Int32))] rfl ?_
      obtain ⟨n6, h⟩ := h
      exact kb_X12_explore_68 C hr hlk  n6 _ _ _ kv0 h
    · have h := h.2 hc1
      refine ct_iload_n C dX12_explore_22 1 rfl rfl ?_
      refine ct_aload_n C dX12_explore_23 0 rfl rfl ?_
      refine gf_X12_32 C dX12_explore_24 kv0 ?_
      have hk7 := ct_t12_10 kv0
      refine ct_iload_n C dX12_explore_27 2 rfl rfl ?_
      refine ct_callSi (As := [.int v2]) C (c_X12_at l D cy o  h) kv_X12_88 rfl rfl (Nat.le_of_ble_eq_true rfl) ⟨rfl, rfl, Nat.le_of_ble_eq_true rfl, Nat.le_of_ble_eq_true rfl⟩ ⟨Nat.zero_le _, Nat.zero_le _⟩ dX12_explore_28 (fun r9 m8 h => ?_)
      refine ct_iconst C dX12_explore_31 (0 : Int32) (by decide) ?_
      refine ct_iadd C dX12_explore_32 ?_
      refine ct_iald C dX12_explore_33 hk7 h.1 ?_
      have h := h.2
      refine ct_iconst C dX12_explore_34 (3 : Int32) (by decide) ?_
      refine ct_icmp_ne C dX12_explore_35 44 (by decide) (fun hc10 => ?_) (fun hc10 => ?_)
      · have h := h.1 hc10
        refine ct_iconst C dX12_explore_44 (0 : Int32) (by decide) ?_
        refine ct_sub [0, 2] [(0, .ref (o + v0)), (2, .int v2)] rfl ?_
        exact kb_X12_explore_45 C hr hlk ih kv0 h
      · have h := h.2 hc10
        refine ct_iconst C dX12_explore_38 (1 : Int32) (by decide) ?_
        refine ct_iload_n C dX12_explore_39 2 rfl rfl ?_
        refine ct_ishl C dX12_explore_40 ?_
        refine ct_goto C dX12_explore_41 45 (by decide) ?_
        refine ct_sub [0, 2] [(0, .ref (o + v0)), (2, .int v2)] rfl ?_
        exact kb_X12_explore_45 C hr hlk ih kv0 h
set_option maxHeartbeats 4000000 in
set_option maxRecDepth 100000 in
theorem c_X12_explore (l : Launch) (D : va_G) (cy : Nat → ClassId) (o : Nat) {a0 : Nat} {Q : ct_M → Prop} {m : ct_M} (ka0 : ct_K 12 a0) (h : wp_X12_explore a0 Q m) : Met l yX12_explore (ct_ws yX12_explore cX12_explore 6 none) rm_X12_explore (va_Pc [.ref (o + a0)] (ct_P D cy o ct_NN m)) (va_Qv Q (ct_P D cy o ct_NN) (fun q => o ≤ q)) 0 0 (fun q => o ≤ q) := by
  refine ct_met l D cy o ct_NN m (by decide) (Nat.le_of_ble_eq_true rfl) (fun p e s mth args below meth c C hr hlk => ?_)
  refine ct_sub [0] [(0, .ref (o + a0))] rfl ?_
  unfold wp_X12_explore at h
  refine ct_aload_n C dX12_explore_0 0 rfl rfl ?_
  refine ct_iconst C dX12_explore_1 (0 : Int32) (by decide) ?_
  refine pf_X12_216 C dX12_explore_2 ka0 ?_
  refine ct_mem (fun m1 em1 => ?_)
  have h := h m1 em1
  refine ct_aload_n C dX12_explore_5 0 rfl rfl ?_
  refine ct_iconst C dX12_explore_6 (0 : Int32) (by decide) ?_
  refine pf_X12_221 C dX12_explore_7 ka0 ?_
  refine ct_mem (fun m2 em2 => ?_)
  have h := h m2 em2
  refine ct_iconst C dX12_explore_10 (0 : Int32) (by decide) ?_
  refine ct_istore_n C dX12_explore_11 [(1, .int (0 : Int32)), (0, .ref (o + a0))] rfl (by decide) rfl ?_
  refine ct_iconst C dX12_explore_12 (0 : Int32) (by decide) ?_
  refine ct_istore_n C dX12_explore_13 [(2, .int (0 : Int32)), (1, .int (0 : Int32)), (0, .ref (o + a0))] rfl (by decide) rfl ?_
  refine ct_sub [2, 1, 0] [(0, .ref (o + a0)), (1, .int (0 : Int32)), (2, .int (0 : Int32))] rfl ?_
  obtain ⟨n3, h⟩ := h
  exact kb_X12_explore_14 C hr hlk  n3 _ _ _ _ ka0 h
abbrev rm_X12_outcomeCount : Room := { frames := 9, cells := 0, slots := 0, locals := 209 }
set_option maxHeartbeats 4000000 in
set_option maxRecDepth 100000 in
theorem c_X12_outcomeCount (l : Launch) (D : va_G) (cy : Nat → ClassId) (o : Nat) {a0 : Nat} {Q : Int32 → ct_M → Prop} {m : ct_M} (ka0 : ct_K 12 a0) (h : wp_X12_outcomeCount a0 Q m) : Met l yX12_outcomeCount (ct_ws yX12_outcomeCount cX12_outcomeCount 1 (some .int)) rm_X12_outcomeCount (va_Pc [.ref (o + a0)] (ct_P D cy o ct_NN m)) (va_Qi Q (ct_P D cy o ct_NN) (fun q => o ≤ q)) 0 0 (fun q => o ≤ q) := by
  refine ct_met l D cy o ct_NN m (by decide) (Nat.le_of_ble_eq_true rfl) (fun p e s mth args below meth c C hr hlk => ?_)
  refine ct_sub [0] [(0, .ref (o + a0))] rfl ?_
  unfold wp_X12_outcomeCount at h
  refine ct_aload_n C dX12_outcomeCount_0 0 rfl rfl ?_
  refine ct_iconst C dX12_outcomeCount_1 (0 : Int32) (by decide) ?_
  refine pf_X12_85 C dX12_outcomeCount_2 ka0 ?_
  refine ct_mem (fun m1 em1 => ?_)
  have h := h m1 em1
  refine ct_aload_n C dX12_outcomeCount_5 0 rfl rfl ?_
  refine ct_callVv (As := []) (T := TX12) C (c_X12_explore l D cy o ka0 h) kv_X12_250 ka0.1 (ct_E12 ka0) rfl rfl rfl (Nat.le_of_ble_eq_true rfl) ⟨rfl, rfl, Nat.le_of_ble_eq_true rfl, Nat.le_of_ble_eq_true rfl⟩ ⟨Nat.zero_le _, Nat.zero_le _⟩ dX12_outcomeCount_6 (fun m2 h => ?_)
  refine ct_aload_n C dX12_outcomeCount_9 0 rfl rfl ?_
  refine gf_X12_221 C dX12_outcomeCount_10 ka0 ?_
  exact ct_ireti C hr hlk dX12_outcomeCount_13 h
abbrev rm_X12_possibleOutcomes : Room := { frames := 9, cells := 0, slots := 0, locals := 209 }
set_option maxHeartbeats 4000000 in
set_option maxRecDepth 100000 in
theorem kb_X12_possibleOutcomes_87 {p : Program} {l : Launch} {e : Env} {s : State} {mth : MethodId} {args : Array Value} {below : List Frame} {meth : Method} {c : Code} {D : va_G} {cy : Nat → ClassId} {o : Nat} {Q : Int32 → ct_M → Prop} {K13 : Nat → Int32 → Int32 → ct_M → Prop} {v0 : Nat} {v2 : Int32} {s0 : Int32} {s1 : Int32} {m : ct_M} (C : ct_Cx p s mth c cX12_possibleOutcomes 5 args RX12 D cy) (hr : meth.sig.returnType = (some .int)) (hlk : meth.locks = false) (hK13 : ∀ (v0 : Nat) (v1 : Int32) (v2 : Int32) (m : ct_M), ct_K 12 v0 → K13 v0 v1 v2 m → ct_J p l e rm_X12_possibleOutcomes s mth args below meth c 5 D cy o ct_NN 0 0 (MQ below (va_Qi Q (ct_P D cy o ct_NN) (fun q => o ≤ q)) args s 0 0 (fun q => o ≤ q)) m 13 [(0, .ref (o + v0)), (1, .int v1), (2, .int v2)] []) (kv0 : ct_K 12 v0) (h : wb_X12_possibleOutcomes_87 K13 Q v0 v2 s0 s1 m) : ct_J p l e rm_X12_possibleOutcomes s mth args below meth c 5 D cy o ct_NN 0 0 (MQ below (va_Qi Q (ct_P D cy o ct_NN) (fun q => o ≤ q)) args s 0 0 (fun q => o ≤ q)) m 87 [(0, .ref (o + v0)), (2, .int v2)] [.int s0, .int s1] := by
  unfold wb_X12_possibleOutcomes_87 at h
  refine ct_iadd C dX12_possibleOutcomes_87 ?_
  refine ct_topi (fun x1 ex1 => ?_)
  have h := h x1 ex1
  refine ct_istore_n C dX12_possibleOutcomes_88 [(1, .int x1), (0, .ref (o + v0)), (2, .int v2)] rfl (by decide) rfl ?_
  obtain ⟨x2, ex2⟩ : ∃ z : Int32, z = v2 + (1 : Int32) := ⟨_, rfl⟩
  have h := h x2 ex2
  refine ct_iinc (k := 2) (v := x2) C dX12_possibleOutcomes_89 [(2, .int x2), (1, .int x1), (0, .ref (o + v0))] rfl (by rw [ex2]; rfl) (by decide) rfl ?_
  refine ct_goto C dX12_possibleOutcomes_92 13 (by decide) ?_
  refine ct_sub [2, 1, 0] [(0, .ref (o + v0)), (1, .int x1), (2, .int x2)] rfl ?_
  exact hK13 _ _ _ _ kv0 h
set_option maxHeartbeats 4000000 in
set_option maxRecDepth 100000 in
theorem kb_X12_possibleOutcomes_70 {p : Program} {l : Launch} {e : Env} {s : State} {mth : MethodId} {args : Array Value} {below : List Frame} {meth : Method} {c : Code} {D : va_G} {cy : Nat → ClassId} {o : Nat} {Q : Int32 → ct_M → Prop} {K13 : Nat → Int32 → Int32 → ct_M → Prop} {K26 : Nat → Int32 → Int32 → Int32 → Int32 → ct_M → Prop} {v0 : Nat} {v1 : Int32} {v2 : Int32} {v4 : Int32} {s0 : Int32} {m : ct_M} (C : ct_Cx p s mth c cX12_possibleOutcomes 5 args RX12 D cy) (hr : meth.sig.returnType = (some .int)) (hlk : meth.locks = false) (hK13 : ∀ (v0 : Nat) (v1 : Int32) (v2 : Int32) (m : ct_M), ct_K 12 v0 → K13 v0 v1 v2 m → ct_J p l e rm_X12_possibleOutcomes s mth args below meth c 5 D cy o ct_NN 0 0 (MQ below (va_Qi Q (ct_P D cy o ct_NN) (fun q => o ≤ q)) args s 0 0 (fun q => o ≤ q)) m 13 [(0, .ref (o + v0)), (1, .int v1), (2, .int v2)] []) (hK26 : ∀ (v0 : Nat) (v1 : Int32) (v2 : Int32) (v3 : Int32) (v4 : Int32) (m : ct_M), ct_K 12 v0 → K26 v0 v1 v2 v3 v4 m → ct_J p l e rm_X12_possibleOutcomes s mth args below meth c 5 D cy o ct_NN 0 0 (MQ below (va_Qi Q (ct_P D cy o ct_NN) (fun q => o ≤ q)) args s 0 0 (fun q => o ≤ q)) m 26 [(0, .ref (o + v0)), (1, .int v1), (2, .int v2), (3, .int v3), (4, .int v4)] []) (kv0 : ct_K 12 v0) (h : wb_X12_possibleOutcomes_70 K13 K26 Q v0 v1 v2 v4 s0 m) : ct_J p l e rm_X12_possibleOutcomes s mth args below meth c 5 D cy o ct_NN 0 0 (MQ below (va_Qi Q (ct_P D cy o ct_NN) (fun q => o ≤ q)) args s 0 0 (fun q => o ≤ q)) m 70 [(0, .ref (o + v0)), (1, .int v1), (2, .int v2), (4, .int v4)] [.int s0] := by
  unfold wb_X12_possibleOutcomes_70 at h
  refine ct_istore_n C dX12_possibleOutcomes_70 [(3, .int s0), (0, .ref (o + v0)), (1, .int v1), (2, .int v2), (4, .int v4)] rfl (by decide) rfl ?_
  obtain ⟨x1, ex1⟩ : ∃ z : Int32, z = v4 + (1 : Int32) := ⟨_, rfl⟩
  have h := h x1 ex1
  refine ct_iinc (k := 4) (v := x1) C dX12_possibleOutcomes_71 [(4, .int x1), (3, .int s0), (0, .ref (o + v0)), (1, .int v1), (2, .int v2)] rfl (by rw [ex1]; rfl) (by decide) rfl ?_
  refine ct_goto C dX12_possibleOutcomes_74 26 (by decide) ?_
  refine ct_sub [2, 3, 4, 1, 0] [(0, .ref (o + v0)), (1, .int v1), (2, .int v2), (3, .int s0), (4, .int x1)] rfl ?_
  exact hK26 _ _ _ _ _ _ kv0 h
set_option maxHeartbeats 4000000 in
set_option maxRecDepth 100000 in
theorem kb_X12_possibleOutcomes_69 {p : Program} {l : Launch} {e : Env} {s : State} {mth : MethodId} {args : Array Value} {below : List Frame} {meth : Method} {c : Code} {D : va_G} {cy : Nat → ClassId} {o : Nat} {Q : Int32 → ct_M → Prop} {K13 : Nat → Int32 → Int32 → ct_M → Prop} {K26 : Nat → Int32 → Int32 → Int32 → Int32 → ct_M → Prop} {v0 : Nat} {v1 : Int32} {v2 : Int32} {v4 : Int32} {m : ct_M} (C : ct_Cx p s mth c cX12_possibleOutcomes 5 args RX12 D cy) (hr : meth.sig.returnType = (some .int)) (hlk : meth.locks = false) (hK13 : ∀ (v0 : Nat) (v1 : Int32) (v2 : Int32) (m : ct_M), ct_K 12 v0 → K13 v0 v1 v2 m → ct_J p l e rm_X12_possibleOutcomes s mth args below meth c 5 D cy o ct_NN 0 0 (MQ below (va_Qi Q (ct_P D cy o ct_NN) (fun q => o ≤ q)) args s 0 0 (fun q => o ≤ q)) m 13 [(0, .ref (o + v0)), (1, .int v1), (2, .int v2)] []) (hK26 : ∀ (v0 : Nat) (v1 : Int32) (v2 : Int32) (v3 : Int32) (v4 : Int32) (m : ct_M), ct_K 12 v0 → K26 v0 v1 v2 v3 v4 m → ct_J p l e rm_X12_possibleOutcomes s mth args below meth c 5 D cy o ct_NN 0 0 (MQ below (va_Qi Q (ct_P D cy o ct_NN) (fun q => o ≤ q)) args s 0 0 (fun q => o ≤ q)) m 26 [(0, .ref (o + v0)), (1, .int v1), (2, .int v2), (3, .int v3), (4, .int v4)] []) (kv0 : ct_K 12 v0) (h : wb_X12_possibleOutcomes_69 K13 K26 Q v0 v1 v2 v4 m) : ct_J p l e rm_X12_possibleOutcomes s mth args below meth c 5 D cy o ct_NN 0 0 (MQ below (va_Qi Q (ct_P D cy o ct_NN) (fun q => o ≤ q)) args s 0 0 (fun q => o ≤ q)) m 69 [(0, .ref (o + v0)), (1, .int v1), (2, .int v2), (4, .int v4)] [] := by
  unfold wb_X12_possibleOutcomes_69 at h
  refine ct_iconst C dX12_possibleOutcomes_69 (0 : Int32) (by decide) ?_
  refine ct_sub [0, 1, 2, 3] [(0, .ref (o + v0)), (1, .int v1), (2, .int v2), (4, .int v4)] rfl ?_
  exact kb_X12_possibleOutcomes_70 C hr hlk hK13 hK26 kv0 h
set_option maxHeartbeats 4000000 in
set_option maxRecDepth 100000 in
theorem kb_X12_possibleOutcomes_26 {p : Program} {l : Launch} {e : Env} {s : State} {mth : MethodId} {args : Array Value} {below : List Frame} {meth : Method} {c : Code} {D : va_G} {cy : Nat → ClassId} {o : Nat} {Q : Int32 → ct_M → Prop} {K13 : Nat → Int32 → Int32 → ct_M → Prop} (C : ct_Cx p s mth c cX12_possibleOutcomes 5 args RX12 D cy) (hr : meth.sig.returnType = (some .int)) (hlk : meth.locks = false) (hK13 : ∀ (v0 : Nat) (v1 : Int32) (v2 : Int32) (m : ct_M), ct_K 12 v0 → K13 v0 v1 v2 m → ct_J p l e rm_X12_possibleOutcomes s mth args below meth c 5 D cy o ct_NN 0 0 (MQ below (va_Qi Q (ct_P D cy o ct_NN) (fun q => o ≤ q)) args s 0 0 (fun q => o ≤ q)) m 13 [(0, .ref (o + v0)), (1, .int v1), (2, .int v2)] []) : ∀ (n : Nat) (v0 : Nat) (v1 : Int32) (v2 : Int32) (v3 : Int32) (v4 : Int32) (m : ct_M) (kv0 : ct_K 12 v0), wb_X12_possibleOutcomes_26 K13 Q n v0 v1 v2 v3 v4 m → ct_J p l e rm_X12_possibleOutcomes s mth args below meth c 5 D cy o ct_NN 0 0 (MQ below (va_Qi Q (ct_P D cy o ct_NN) (fun q => o ≤ q)) args s 0 0 (fun q => o ≤ q)) m 26 [(0, .ref (o + v0)), (1, .int v1), (2, .int v2), (3, .int v3), (4, .int v4)] [] := by
  intro n
  induction n with
  | zero => intro v0 v1 v2 v3 v4 m kv0 h; exact h.elim
  | succ n ih =>
    intro v0 v1 v2 v3 v4 m kv0 h
    unfold wb_X12_possibleOutcomes_26 at h
    refine ct_iload C dX12_possibleOutcomes_26 4 rfl ?_
    refine ct_aload_n C dX12_possibleOutcomes_28 0 rfl rfl ?_
    refine gf_X12_253 C dX12_possibleOutcomes_29 kv0 ?_
    refine ct_icmp_ge C dX12_possibleOutcomes_32 77 (by decide) (fun hc1 => ?_) (fun hc1 => ?_)
    · have h := h.1 hc1
      refine ct_iload_n C dX12_possibleOutcomes_77 1 rfl rfl ?_
      refine ct_iload_n C dX12_possibleOutcomes_78 3 rfl rfl ?_
      refine ct_if_eq C dX12_possibleOutcomes_79 86 (by decide) (fun hc2 => ?_) (fun hc2 => ?_)
      · have h := h.1 hc2
        refine ct_iconst C dX12_possibleOutcomes_86 (0 : Int32) (by decide) ?_
        refine ct_sub [0, 2] [(0, .ref (o + v0)), (2, .int v2)] rfl ?_
        exact kb_X12_possibleOutcomes_87 C hr hlk hK13 kv0 h
      · have h := h.2 hc2
        refine ct_iconst C dX12_possibleOutcomes_82 (1 : Int32) (by decide) ?_
        refine ct_goto C dX12_possibleOutcomes_83 87 (by decide) ?_
        refine ct_sub [0, 2] [(0, .ref (o + v0)), (2, .int v2)] rfl ?_
        exact kb_X12_possibleOutcomes_87 C hr hlk hK13 kv0 h
    · have h := h.2 hc1
      refine ct_iload_n C dX12_possibleOutcomes_35 3 rfl rfl ?_
      refine ct_if_eq C dX12_possibleOutcomes_36 69 (by decide) (fun hc3 => ?_) (fun hc3 => ?_)
      · have h := h.1 hc3
        refine ct_sub [0, 1, 2, 4] [(0, .ref (o + v0)), (1, .int v1), (2, .int v2), (4, .int v4)] rfl ?_
        exact kb_X12_possibleOutcomes_69 C hr hlk hK13 ih kv0 h
      · have h := h.2 hc3
        refine ct_aload_n C dX12_possibleOutcomes_39 0 rfl rfl ?_
        refine gf_X12_82 C dX12_possibleOutcomes_40 kv0 ?_
        have hk4 := ct_t12_32 kv0
        refine ct_iload_n C dX12_possibleOutcomes_43 2 rfl rfl ?_
        refine ct_lald C dX12_possibleOutcomes_44 hk4 h.1 ?_
        have h := h.2
        refine ct_aload_n C dX12_possibleOutcomes_45 0 rfl rfl ?_
        refine gf_X12_48 C dX12_possibleOutcomes_46 kv0 ?_
        have hk5 := ct_t12_17 kv0
        refine ct_iload C dX12_possibleOutcomes_49 4 rfl ?_
        refine ct_iald C dX12_possibleOutcomes_51 hk5 h.1 ?_
        have h := h.2
        refine ct_callSi (As := [.long (m.2 (v0 + 23) v2.toNatClampNeg), .int (m.1 (v0 + 12) v4.toNatClampNeg)]) C (c_X12_valueIn l D cy o  h) kv_X12_228 rfl rfl (Nat.le_of_ble_eq_true rfl) ⟨rfl, rfl, Nat.le_of_ble_eq_true rfl, Nat.le_of_ble_eq_true rfl⟩ ⟨Nat.zero_le _, Nat.zero_le _⟩ dX12_possibleOutcomes_52 (fun r7 m6 h => ?_)
        refine ct_aload_n C dX12_possibleOutcomes_55 0 rfl rfl ?_
        refine gf_X12_51 C dX12_possibleOutcomes_56 kv0 ?_
        have hk8 := ct_t12_18 kv0
        refine ct_iload C dX12_possibleOutcomes_59 4 rfl ?_
        refine ct_iald C dX12_possibleOutcomes_61 hk8 h.1 ?_
        have h := h.2
        refine ct_icmp_ne C dX12_possibleOutcomes_62 69 (by decide) (fun hc9 => ?_) (fun hc9 => ?_)
        · have h := h.1 hc9
          refine ct_sub [0, 1, 2, 4] [(0, .ref (o + v0)), (1, .int v1), (2, .int v2), (4, .int v4)] rfl ?_
          exact kb_X12_possibleOutcomes_69 C hr hlk hK13 ih kv0 h
        · have h := h.2 hc9
          refine ct_iconst C dX12_possibleOutcomes_65 (1 : Int32) (by decide) ?_
          refine ct_goto C dX12_possibleOutcomes_66 70 (by decide) ?_
          refine ct_sub [0, 1, 2, 4] [(0, .ref (o + v0)), (1, .int v1), (2, .int v2), (4, .int v4)] rfl ?_
          exact kb_X12_possibleOutcomes_70 C hr hlk hK13 ih kv0 h
set_option maxHeartbeats 4000000 in
set_option maxRecDepth 100000 in
theorem kb_X12_possibleOutcomes_13 {p : Program} {l : Launch} {e : Env} {s : State} {mth : MethodId} {args : Array Value} {below : List Frame} {meth : Method} {c : Code} {D : va_G} {cy : Nat → ClassId} {o : Nat} {Q : Int32 → ct_M → Prop} (C : ct_Cx p s mth c cX12_possibleOutcomes 5 args RX12 D cy) (hr : meth.sig.returnType = (some .int)) (hlk : meth.locks = false) : ∀ (n : Nat) (v0 : Nat) (v1 : Int32) (v2 : Int32) (m : ct_M) (kv0 : ct_K 12 v0), wb_X12_possibleOutcomes_13 Q n v0 v1 v2 m → ct_J p l e rm_X12_possibleOutcomes s mth args below meth c 5 D cy o ct_NN 0 0 (MQ below (va_Qi Q (ct_P D cy o ct_NN) (fun q => o ≤ q)) args s 0 0 (fun q => o ≤ q)) m 13 [(0, .ref (o + v0)), (1, .int v1), (2, .int v2)] [] := by
  intro n
  induction n with
  | zero => intro v0 v1 v2 m kv0 h; exact h.elim
  | succ n ih =>
    intro v0 v1 v2 m kv0 h
    unfold wb_X12_possibleOutcomes_13 at h
    refine ct_iload_n C dX12_possibleOutcomes_13 2 rfl rfl ?_
    refine ct_aload_n C dX12_possibleOutcomes_14 0 rfl rfl ?_
    refine gf_X12_221 C dX12_possibleOutcomes_15 kv0 ?_
    refine ct_icmp_ge C dX12_possibleOutcomes_18 95 (by decide) (fun hc1 => ?_) (fun hc1 => ?_)
    · have h := h.1 hc1
      refine ct_iload_n C dX12_possibleOutcomes_95 1 rfl rfl ?_
      exact ct_ireti C hr hlk dX12_possibleOutcomes_96 h
    · have h := h.2 hc1
      refine ct_iconst C dX12_possibleOutcomes_21 (1 : Int32) (by decide) ?_
      refine ct_istore_n C dX12_possibleOutcomes_22 [(3, .int (1 : Int32)), (0, .ref (o + v0)), (1, .int v1), (2, .int v2)] rfl (by decide) rfl ?_
      refine ct_iconst C dX12_possibleOutcomes_23 (0 : Int32) (by decide) ?_
      refine ct_istore C dX12_possibleOutcomes_24 [(4, .int (0 : Int32)), (3, .int (1 : Int32)), (0, .ref (o + v0)), (1, .int v1), (2, .int v2)] (by decide) rfl ?_
      refine ct_sub [2, 3, 4, 1, 0] [(0, .ref (o + v0)), (1, .int v1), (2, .int v2), (3, .int (1 : Int32)), (4, .int (0 : Int32))] rfl ?_
      obtain ⟨n2, h⟩ := h
      exact kb_X12_possibleOutcomes_26 C hr hlk ih n2 _ _ _ _ _ _ kv0 h
set_option maxHeartbeats 4000000 in
set_option maxRecDepth 100000 in
theorem c_X12_possibleOutcomes (l : Launch) (D : va_G) (cy : Nat → ClassId) (o : Nat) {a0 : Nat} {Q : Int32 → ct_M → Prop} {m : ct_M} (ka0 : ct_K 12 a0) (h : wp_X12_possibleOutcomes a0 Q m) : Met l yX12_possibleOutcomes (ct_ws yX12_possibleOutcomes cX12_possibleOutcomes 5 (some .int)) rm_X12_possibleOutcomes (va_Pc [.ref (o + a0)] (ct_P D cy o ct_NN m)) (va_Qi Q (ct_P D cy o ct_NN) (fun q => o ≤ q)) 0 0 (fun q => o ≤ q) := by
  refine ct_met l D cy o ct_NN m (by decide) (Nat.le_of_ble_eq_true rfl) (fun p e s mth args below meth c C hr hlk => ?_)
  refine ct_sub [0] [(0, .ref (o + a0))] rfl ?_
  unfold wp_X12_possibleOutcomes at h
  refine ct_aload_n C dX12_possibleOutcomes_0 0 rfl rfl ?_
  refine ct_iconst C dX12_possibleOutcomes_1 (0 : Int32) (by decide) ?_
  refine pf_X12_85 C dX12_possibleOutcomes_2 ka0 ?_
  refine ct_mem (fun m1 em1 => ?_)
  have h := h m1 em1
  refine ct_aload_n C dX12_possibleOutcomes_5 0 rfl rfl ?_
  refine ct_callVv (As := []) (T := TX12) C (c_X12_explore l D cy o ka0 h) kv_X12_250 ka0.1 (ct_E12 ka0) rfl rfl rfl (Nat.le_of_ble_eq_true rfl) ⟨rfl, rfl, Nat.le_of_ble_eq_true rfl, Nat.le_of_ble_eq_true rfl⟩ ⟨Nat.zero_le _, Nat.zero_le _⟩ dX12_possibleOutcomes_6 (fun m2 h => ?_)
  refine ct_iconst C dX12_possibleOutcomes_9 (0 : Int32) (by decide) ?_
  refine ct_istore_n C dX12_possibleOutcomes_10 [(1, .int (0 : Int32)), (0, .ref (o + a0))] rfl (by decide) rfl ?_
  refine ct_iconst C dX12_possibleOutcomes_11 (0 : Int32) (by decide) ?_
  refine ct_istore_n C dX12_possibleOutcomes_12 [(2, .int (0 : Int32)), (1, .int (0 : Int32)), (0, .ref (o + a0))] rfl (by decide) rfl ?_
  refine ct_sub [2, 1, 0] [(0, .ref (o + a0)), (1, .int (0 : Int32)), (2, .int (0 : Int32))] rfl ?_
  obtain ⟨n3, h⟩ := h
  exact kb_X12_possibleOutcomes_13 C hr hlk  n3 _ _ _ _ ka0 h
abbrev rm_X12_canDeadlock : Room := { frames := 9, cells := 0, slots := 0, locals := 209 }
set_option maxHeartbeats 4000000 in
set_option maxRecDepth 100000 in
theorem kb_X12_canDeadlock_11 {p : Program} {l : Launch} {e : Env} {s : State} {mth : MethodId} {args : Array Value} {below : List Frame} {meth : Method} {c : Code} {D : va_G} {cy : Nat → ClassId} {o : Nat} {Q : Int32 → ct_M → Prop} (C : ct_Cx p s mth c cX12_canDeadlock 2 args RX12 D cy) (hr : meth.sig.returnType = (some .int)) (hlk : meth.locks = false) : ∀ (n : Nat) (v0 : Nat) (v1 : Int32) (m : ct_M) (kv0 : ct_K 12 v0), wb_X12_canDeadlock_11 Q n v0 v1 m → ct_J p l e rm_X12_canDeadlock s mth args below meth c 2 D cy o ct_NN 0 0 (MQ below (va_Qi Q (ct_P D cy o ct_NN) (fun q => o ≤ q)) args s 0 0 (fun q => o ≤ q)) m 11 [(0, .ref (o + v0)), (1, .int v1)] [] := by
  intro n
  induction n with
  | zero => intro v0 v1 m kv0 h; exact h.elim
  | succ n ih =>
    intro v0 v1 m kv0 h
    unfold wb_X12_canDeadlock_11 at h
    refine ct_iload_n C dX12_canDeadlock_11 1 rfl rfl ?_
    refine ct_aload_n C dX12_canDeadlock_12 0 rfl rfl ?_
    refine gf_X12_221 C dX12_canDeadlock_13 kv0 ?_
    refine ct_icmp_ge C dX12_canDeadlock_16 42 (by decide) (fun hc1 => ?_) (fun hc1 => ?_)
    · have h := h.1 hc1
      refine ct_iconst C dX12_canDeadlock_42 (0 : Int32) (by decide) ?_
      exact ct_ireti C hr hlk dX12_canDeadlock_43 h
    · have h := h.2 hc1
      refine ct_aload_n C dX12_canDeadlock_19 0 rfl rfl ?_
      refine gf_X12_82 C dX12_canDeadlock_20 kv0 ?_
      have hk2 := ct_t12_32 kv0
      refine ct_iload_n C dX12_canDeadlock_23 1 rfl rfl ?_
      refine ct_lald C dX12_canDeadlock_24 hk2 h.1 ?_
      have h := h.2
      refine ct_ldc2 C dX12_canDeadlock_25 mw_598 ?_
      refine ct_land C dX12_canDeadlock_28 ?_
      refine ct_lconst C dX12_canDeadlock_29 (0 : Int64) (by decide) ?_
      refine ct_lcmp C dX12_canDeadlock_30 ?_
      refine ct_if_eq C dX12_canDeadlock_31 36 (by decide) (fun hc3 => ?_) (fun hc3 => ?_)
      · have h := h.1 hc3
        obtain ⟨x4, ex4⟩ : ∃ z : Int32, z = v1 + (1 : Int32) := ⟨_, rfl⟩
        have h := h x4 ex4
        refine ct_iinc (k := 1) (v := x4) C dX12_canDeadlock_36 [(1, .int x4), (0, .ref (o + v0))] rfl (by rw [ex4]; rfl) (by decide) rfl ?_
        refine ct_goto C dX12_canDeadlock_39 11 (by decide) ?_
        refine ct_sub [1, 0] [(0, .ref (o + v0)), (1, .int x4)] rfl ?_
        exact ih _ _ _ kv0 h
      · have h := h.2 hc3
        refine ct_iconst C dX12_canDeadlock_34 (1 : Int32) (by decide) ?_
        exact ct_ireti C hr hlk dX12_canDeadlock_35 h
set_option maxHeartbeats 4000000 in
set_option maxRecDepth 100000 in
theorem c_X12_canDeadlock (l : Launch) (D : va_G) (cy : Nat → ClassId) (o : Nat) {a0 : Nat} {Q : Int32 → ct_M → Prop} {m : ct_M} (ka0 : ct_K 12 a0) (h : wp_X12_canDeadlock a0 Q m) : Met l yX12_canDeadlock (ct_ws yX12_canDeadlock cX12_canDeadlock 2 (some .int)) rm_X12_canDeadlock (va_Pc [.ref (o + a0)] (ct_P D cy o ct_NN m)) (va_Qi Q (ct_P D cy o ct_NN) (fun q => o ≤ q)) 0 0 (fun q => o ≤ q) := by
  refine ct_met l D cy o ct_NN m (by decide) (Nat.le_of_ble_eq_true rfl) (fun p e s mth args below meth c C hr hlk => ?_)
  refine ct_sub [0] [(0, .ref (o + a0))] rfl ?_
  unfold wp_X12_canDeadlock at h
  refine ct_aload_n C dX12_canDeadlock_0 0 rfl rfl ?_
  refine ct_iconst C dX12_canDeadlock_1 (0 : Int32) (by decide) ?_
  refine pf_X12_85 C dX12_canDeadlock_2 ka0 ?_
  refine ct_mem (fun m1 em1 => ?_)
  have h := h m1 em1
  refine ct_aload_n C dX12_canDeadlock_5 0 rfl rfl ?_
  refine ct_callVv (As := []) (T := TX12) C (c_X12_explore l D cy o ka0 h) kv_X12_250 ka0.1 (ct_E12 ka0) rfl rfl rfl (Nat.le_of_ble_eq_true rfl) ⟨rfl, rfl, Nat.le_of_ble_eq_true rfl, Nat.le_of_ble_eq_true rfl⟩ ⟨Nat.zero_le _, Nat.zero_le _⟩ dX12_canDeadlock_6 (fun m2 h => ?_)
  refine ct_iconst C dX12_canDeadlock_9 (0 : Int32) (by decide) ?_
  refine ct_istore_n C dX12_canDeadlock_10 [(1, .int (0 : Int32)), (0, .ref (o + a0))] rfl (by decide) rfl ?_
  refine ct_sub [1, 0] [(0, .ref (o + a0)), (1, .int (0 : Int32))] rfl ?_
  obtain ⟨n3, h⟩ := h
  exact kb_X12_canDeadlock_11 C hr hlk  n3 _ _ _ ka0 h
abbrev rm_X12_greatestOutcome : Room := { frames := 9, cells := 0, slots := 0, locals := 209 }
set_option maxHeartbeats 4000000 in
set_option maxRecDepth 100000 in
theorem kb_X12_greatestOutcome_55 {p : Program} {l : Launch} {e : Env} {s : State} {mth : MethodId} {args : Array Value} {below : List Frame} {meth : Method} {c : Code} {D : va_G} {cy : Nat → ClassId} {o : Nat} {Q : Int32 → ct_M → Prop} {K23 : Nat → Int32 → Int32 → Int32 → ct_M → Prop} {v0 : Nat} {v1 : Int32} {v3 : Int32} {s0 : Int32} {m : ct_M} (C : ct_Cx p s mth c cX12_greatestOutcome 5 args RX12 D cy) (hr : meth.sig.returnType = (some .int)) (hlk : meth.locks = false) (hK23 : ∀ (v0 : Nat) (v1 : Int32) (v2 : Int32) (v3 : Int32) (m : ct_M), ct_K 12 v0 → K23 v0 v1 v2 v3 m → ct_J p l e rm_X12_greatestOutcome s mth args below meth c 5 D cy o ct_NN 0 0 (MQ below (va_Qi Q (ct_P D cy o ct_NN) (fun q => o ≤ q)) args s 0 0 (fun q => o ≤ q)) m 23 [(0, .ref (o + v0)), (1, .int v1), (2, .int v2), (3, .int v3)] []) (kv0 : ct_K 12 v0) (h : wb_X12_greatestOutcome_55 K23 Q v0 v1 v3 s0 m) : ct_J p l e rm_X12_greatestOutcome s mth args below meth c 5 D cy o ct_NN 0 0 (MQ below (va_Qi Q (ct_P D cy o ct_NN) (fun q => o ≤ q)) args s 0 0 (fun q => o ≤ q)) m 55 [(0, .ref (o + v0)), (1, .int v1), (3, .int v3)] [.int s0] := by
  unfold wb_X12_greatestOutcome_55 at h
  refine ct_istore_n C dX12_greatestOutcome_55 [(2, .int s0), (0, .ref (o + v0)), (1, .int v1), (3, .int v3)] rfl (by decide) rfl ?_
  obtain ⟨x1, ex1⟩ : ∃ z : Int32, z = v3 + (1 : Int32) := ⟨_, rfl⟩
  have h := h x1 ex1
  refine ct_iinc (k := 3) (v := x1) C dX12_greatestOutcome_56 [(3, .int x1), (2, .int s0), (0, .ref (o + v0)), (1, .int v1)] rfl (by rw [ex1]; rfl) (by decide) rfl ?_
  refine ct_goto C dX12_greatestOutcome_59 23 (by decide) ?_
  refine ct_sub [2, 3, 1, 0] [(0, .ref (o + v0)), (1, .int v1), (2, .int s0), (3, .int x1)] rfl ?_
  exact hK23 _ _ _ _ _ kv0 h
set_option maxHeartbeats 4000000 in
set_option maxRecDepth 100000 in
theorem kb_X12_greatestOutcome_23 {p : Program} {l : Launch} {e : Env} {s : State} {mth : MethodId} {args : Array Value} {below : List Frame} {meth : Method} {c : Code} {D : va_G} {cy : Nat → ClassId} {o : Nat} {Q : Int32 → ct_M → Prop} (C : ct_Cx p s mth c cX12_greatestOutcome 5 args RX12 D cy) (hr : meth.sig.returnType = (some .int)) (hlk : meth.locks = false) : ∀ (n : Nat) (v0 : Nat) (v1 : Int32) (v2 : Int32) (v3 : Int32) (m : ct_M) (kv0 : ct_K 12 v0), wb_X12_greatestOutcome_23 Q n v0 v1 v2 v3 m → ct_J p l e rm_X12_greatestOutcome s mth args below meth c 5 D cy o ct_NN 0 0 (MQ below (va_Qi Q (ct_P D cy o ct_NN) (fun q => o ≤ q)) args s 0 0 (fun q => o ≤ q)) m 23 [(0, .ref (o + v0)), (1, .int v1), (2, .int v2), (3, .int v3)] [] := by
  intro n
  induction n with
  | zero => intro v0 v1 v2 v3 m kv0 h; exact h.elim
  | succ n ih =>
    intro v0 v1 v2 v3 m kv0 h
    unfold wb_X12_greatestOutcome_23 at h
    refine ct_iload_n C dX12_greatestOutcome_23 3 rfl rfl ?_
    refine ct_aload_n C dX12_greatestOutcome_24 0 rfl rfl ?_
    refine gf_X12_221 C dX12_greatestOutcome_25 kv0 ?_
    refine ct_icmp_ge C dX12_greatestOutcome_28 62 (by decide) (fun hc1 => ?_) (fun hc1 => ?_)
    · have h := h.1 hc1
      refine ct_iload_n C dX12_greatestOutcome_62 2 rfl rfl ?_
      refine ct_bipush C dX12_greatestOutcome_63 (100 : Int32) (by decide) ?_
      refine ct_iadd C dX12_greatestOutcome_65 ?_
      exact ct_ireti C hr hlk dX12_greatestOutcome_66 h
    · have h := h.2 hc1
      refine ct_aload_n C dX12_greatestOutcome_31 0 rfl rfl ?_
      refine gf_X12_82 C dX12_greatestOutcome_32 kv0 ?_
      have hk2 := ct_t12_32 kv0
      refine ct_iload_n C dX12_greatestOutcome_35 3 rfl rfl ?_
      refine ct_lald C dX12_greatestOutcome_36 hk2 h.1 ?_
      have h := h.2
      refine ct_iload_n C dX12_greatestOutcome_37 1 rfl rfl ?_
      refine ct_callSi (As := [.long (m.2 (v0 + 23) v3.toNatClampNeg), .int v1]) C (c_X12_valueIn l D cy o  h) kv_X12_228 rfl rfl (Nat.le_of_ble_eq_true rfl) ⟨rfl, rfl, Nat.le_of_ble_eq_true rfl, Nat.le_of_ble_eq_true rfl⟩ ⟨Nat.zero_le _, Nat.zero_le _⟩ dX12_greatestOutcome_38 (fun r4 m3 h => ?_)
      refine ct_istore C dX12_greatestOutcome_41 [(4, .int r4), (0, .ref (o + v0)), (1, .int v1), (2, .int v2), (3, .int v3)] (by decide) rfl ?_
      refine ct_iload C dX12_greatestOutcome_43 0 rfl ?_
      refine ct_iload_n C dX12_greatestOutcome_45 3 rfl rfl ?_
      refine ct_icmp_le C dX12_greatestOutcome_46 54 (by decide) (fun hc5 => ?_) (fun hc5 => ?_)
      · have h := h.1 hc5
        refine ct_iload_n C dX12_greatestOutcome_54 3 rfl rfl ?_
        refine ct_sub [1, 2, 4] [(0, .ref (o + v0)), (1, .int v1), (3, .int v3)] rfl ?_
        exact kb_X12_greatestOutcome_55 C hr hlk ih kv0 h
      · have h := h.2 hc5
        refine ct_iload C dX12_greatestOutcome_49 0 rfl ?_
        refine ct_goto C dX12_greatestOutcome_51 55 (by decide) ?_
        refine ct_sub [1, 2, 4] [(0, .ref (o + v0)), (1, .int v1), (3, .int v3)] rfl ?_
        exact kb_X12_greatestOutcome_55 C hr hlk ih kv0 h
set_option maxHeartbeats 4000000 in
set_option maxRecDepth 100000 in
theorem c_X12_greatestOutcome (l : Launch) (D : va_G) (cy : Nat → ClassId) (o : Nat) {a0 : Nat} {p1 : Int32} {Q : Int32 → ct_M → Prop} {m : ct_M} (ka0 : ct_K 12 a0) (h : wp_X12_greatestOutcome a0 p1 Q m) : Met l yX12_greatestOutcome (ct_ws yX12_greatestOutcome cX12_greatestOutcome 5 (some .int)) rm_X12_greatestOutcome (va_Pc [.ref (o + a0), .int p1] (ct_P D cy o ct_NN m)) (va_Qi Q (ct_P D cy o ct_NN) (fun q => o ≤ q)) 0 0 (fun q => o ≤ q) := by
  refine ct_met l D cy o ct_NN m (by decide) (Nat.le_of_ble_eq_true rfl) (fun p e s mth args below meth c C hr hlk => ?_)
  refine ct_sub [0, 1] [(0, .ref (o + a0)), (1, .int p1)] rfl ?_
  unfold wp_X12_greatestOutcome at h
  refine ct_aload_n C dX12_greatestOutcome_0 0 rfl rfl ?_
  refine ct_iconst C dX12_greatestOutcome_1 (0 : Int32) (by decide) ?_
  refine pf_X12_85 C dX12_greatestOutcome_2 ka0 ?_
  refine ct_mem (fun m1 em1 => ?_)
  have h := h m1 em1
  refine ct_iload_n C dX12_greatestOutcome_5 1 rfl rfl ?_
  refine ct_callSi (As := [.int p1]) C (c_X12_noCell l D cy o  h) kv_X12_192 rfl rfl (Nat.le_of_ble_eq_true rfl) ⟨rfl, rfl, Nat.le_of_ble_eq_true rfl, Nat.le_of_ble_eq_true rfl⟩ ⟨Nat.zero_le _, Nat.zero_le _⟩ dX12_greatestOutcome_6 (fun r3 m2 h => ?_)
  refine ct_if_eq C dX12_greatestOutcome_9 14 (by decide) (fun hc4 => ?_) (fun hc4 => ?_)
  · have h := h.1 hc4
    refine ct_aload_n C dX12_greatestOutcome_14 0 rfl rfl ?_
    refine ct_callVv (As := []) (T := TX12) C (c_X12_explore l D cy o ka0 h) kv_X12_250 ka0.1 (ct_E12 ka0) rfl rfl rfl (Nat.le_of_ble_eq_true rfl) ⟨rfl, rfl, Nat.le_of_ble_eq_true rfl, Nat.le_of_ble_eq_true rfl⟩ ⟨Nat.zero_le _, Nat.zero_le _⟩ dX12_greatestOutcome_15 (fun m5 h => ?_)
    refine ct_bipush C dX12_greatestOutcome_18 (-100 : Int32) (by decide) ?_
    refine ct_istore_n C dX12_greatestOutcome_20 [(2, .int (-100 : Int32)), (0, .ref (o + a0)), (1, .int p1)] rfl (by decide) rfl ?_
    refine ct_iconst C dX12_greatestOutcome_21 (0 : Int32) (by decide) ?_
    refine ct_istore_n C dX12_greatestOutcome_22 [(3, .int (0 : Int32)), (2, .int (-100 : Int32)), (0, .ref (o + a0)), (1, .int p1)] rfl (by decide) rfl ?_
    refine ct_sub [2, 3, 1, 0] [(0, .ref (o + a0)), (1, .int p1), (2, .int (-100 : Int32)), (3, .int (0 : Int32))] rfl ?_
    obtain ⟨n6, h⟩ := h
    exact kb_X12_greatestOutcome_23 C hr hlk  n6 _ _ _ _ _ ka0 h
  · have h := h.2 hc4
    refine ct_iconst C dX12_greatestOutcome_12 (-1 : Int32) (by decide) ?_
    exact ct_ireti C hr hlk dX12_greatestOutcome_13 h
abbrev rm_X12_command : Room := { frames := 7, cells := 0, slots := 0, locals := 157 }
set_option maxHeartbeats 4000000 in
set_option maxRecDepth 100000 in
theorem kb_X12_command_130 {p : Program} {l : Launch} {e : Env} {s : State} {mth : MethodId} {args : Array Value} {below : List Frame} {meth : Method} {c : Code} {D : va_G} {cy : Nat → ClassId} {o : Nat} {Q : Int32 → ct_M → Prop} {K83 : Nat → Int32 → Int32 → Int32 → Int32 → ct_M → Prop} {v0 : Nat} {v2 : Int32} {v3 : Int32} {v6 : Int32} {v7 : Int32} {m : ct_M} (C : ct_Cx p s mth c cX12_command 8 args RX12 D cy) (hr : meth.sig.returnType = (some .boolean)) (hlk : meth.locks = false) (hK83 : ∀ (v0 : Nat) (v2 : Int32) (v3 : Int32) (v6 : Int32) (v7 : Int32) (m : ct_M), ct_K 12 v0 → K83 v0 v2 v3 v6 v7 m → ct_J p l e rm_X12_command s mth args below meth c 8 D cy o ct_NN 0 0 (MQ below (va_Qi Q (ct_P D cy o ct_NN) (fun q => o ≤ q)) args s 0 0 (fun q => o ≤ q)) m 83 [(0, .ref (o + v0)), (2, .int v2), (3, .int v3), (6, .int v6), (7, .int v7)] []) (kv0 : ct_K 12 v0) (h : wb_X12_command_130 K83 Q v0 v2 v3 v6 v7 m) : ct_J p l e rm_X12_command s mth args below meth c 8 D cy o ct_NN 0 0 (MQ below (va_Qi Q (ct_P D cy o ct_NN) (fun q => o ≤ q)) args s 0 0 (fun q => o ≤ q)) m 130 [(0, .ref (o + v0)), (2, .int v2), (3, .int v3), (6, .int v6), (7, .int v7)] [] := by
  unfold wb_X12_command_130 at h
  obtain ⟨x1, ex1⟩ : ∃ z : Int32, z = v7 + (1 : Int32) := ⟨_, rfl⟩
  have h := h x1 ex1
  refine ct_iinc (k := 4) (v := x1) C dX12_command_130 [(7, .int x1), (0, .ref (o + v0)), (2, .int v2), (3, .int v3), (6, .int v6)] rfl (by rw [ex1]; rfl) (by decide) rfl ?_
  refine ct_goto C dX12_command_133 83 (by decide) ?_
  refine ct_sub [1, 2, 3, 4, 0] [(0, .ref (o + v0)), (2, .int v2), (3, .int v3), (6, .int v6), (7, .int x1)] rfl ?_
  exact hK83 _ _ _ _ _ _ kv0 h
set_option maxHeartbeats 4000000 in
set_option maxRecDepth 100000 in
theorem kb_X12_command_113 {p : Program} {l : Launch} {e : Env} {s : State} {mth : MethodId} {args : Array Value} {below : List Frame} {meth : Method} {c : Code} {D : va_G} {cy : Nat → ClassId} {o : Nat} {Q : Int32 → ct_M → Prop} {K83 : Nat → Int32 → Int32 → Int32 → Int32 → ct_M → Prop} {v0 : Nat} {v2 : Int32} {v3 : Int32} {v7 : Int32} {s0 : Int32} {m : ct_M} (C : ct_Cx p s mth c cX12_command 8 args RX12 D cy) (hr : meth.sig.returnType = (some .boolean)) (hlk : meth.locks = false) (hK83 : ∀ (v0 : Nat) (v2 : Int32) (v3 : Int32) (v6 : Int32) (v7 : Int32) (m : ct_M), ct_K 12 v0 → K83 v0 v2 v3 v6 v7 m → ct_J p l e rm_X12_command s mth args below meth c 8 D cy o ct_NN 0 0 (MQ below (va_Qi Q (ct_P D cy o ct_NN) (fun q => o ≤ q)) args s 0 0 (fun q => o ≤ q)) m 83 [(0, .ref (o + v0)), (2, .int v2), (3, .int v3), (6, .int v6), (7, .int v7)] []) (kv0 : ct_K 12 v0) (h : wb_X12_command_113 K83 Q v0 v2 v3 v7 s0 m) : ct_J p l e rm_X12_command s mth args below meth c 8 D cy o ct_NN 0 0 (MQ below (va_Qi Q (ct_P D cy o ct_NN) (fun q => o ≤ q)) args s 0 0 (fun q => o ≤ q)) m 113 [(0, .ref (o + v0)), (2, .int v2), (3, .int v3), (7, .int v7)] [.int s0] := by
  unfold wb_X12_command_113 at h
  refine ct_istore C dX12_command_113 [(6, .int s0), (0, .ref (o + v0)), (2, .int v2), (3, .int v3), (7, .int v7)] (by decide) rfl ?_
  refine ct_iload C dX12_command_115 0 rfl ?_
  refine ct_if_eq C dX12_command_117 130 (by decide) (fun hc1 => ?_) (fun hc1 => ?_)
  · have h := h.1 hc1
    refine ct_sub [1, 2, 3, 0, 4] [(0, .ref (o + v0)), (2, .int v2), (3, .int v3), (6, .int s0), (7, .int v7)] rfl ?_
    exact kb_X12_command_130 C hr hlk hK83 kv0 h
  · have h := h.2 hc1
    refine ct_aload_n C dX12_command_120 1 rfl rfl ?_
    refine ct_aload_n C dX12_command_121 1 rfl rfl ?_
    refine gf_X12_35 C dX12_command_122 kv0 ?_
    have hk2 := ct_t12_11 kv0
    refine ct_iload_n C dX12_command_125 2 rfl rfl ?_
    refine ct_callVi (As := [.ref (o + (v0 + 8)), .int v2]) (T := TX12) C (c_X12_stepOn l D cy o kv0 hk2 h) kv_X12_201 kv0.1 (ct_E12 kv0) rfl rfl rfl (Nat.le_of_ble_eq_true rfl) ⟨rfl, rfl, Nat.le_of_ble_eq_true rfl, Nat.le_of_ble_eq_true rfl⟩ ⟨Nat.zero_le _, Nat.zero_le _⟩ dX12_command_126 (fun r4 m3 h => ?_)
    refine ct_pop C dX12_command_129 rfl ?_
    refine ct_sub [1, 2, 3, 0, 4] [(0, .ref (o + v0)), (2, .int v2), (3, .int v3), (6, .int s0), (7, .int v7)] rfl ?_
    exact kb_X12_command_130 C hr hlk hK83 kv0 h
set_option maxHeartbeats 4000000 in
set_option maxRecDepth 100000 in
theorem kb_X12_command_83 {p : Program} {l : Launch} {e : Env} {s : State} {mth : MethodId} {args : Array Value} {below : List Frame} {meth : Method} {c : Code} {D : va_G} {cy : Nat → ClassId} {o : Nat} {Q : Int32 → ct_M → Prop} (C : ct_Cx p s mth c cX12_command 8 args RX12 D cy) (hr : meth.sig.returnType = (some .boolean)) (hlk : meth.locks = false) : ∀ (n : Nat) (v0 : Nat) (v2 : Int32) (v3 : Int32) (v6 : Int32) (v7 : Int32) (m : ct_M) (kv0 : ct_K 12 v0), wb_X12_command_83 Q n v0 v2 v3 v6 v7 m → ct_J p l e rm_X12_command s mth args below meth c 8 D cy o ct_NN 0 0 (MQ below (va_Qi Q (ct_P D cy o ct_NN) (fun q => o ≤ q)) args s 0 0 (fun q => o ≤ q)) m 83 [(0, .ref (o + v0)), (2, .int v2), (3, .int v3), (6, .int v6), (7, .int v7)] [] := by
  intro n
  induction n with
  | zero => intro v0 v2 v3 v6 v7 m kv0 h; exact h.elim
  | succ n ih =>
    intro v0 v2 v3 v6 v7 m kv0 h
    unfold wb_X12_command_83 at h
    refine ct_iload C dX12_command_83 4 rfl ?_
    refine ct_iload_n C dX12_command_85 2 rfl rfl ?_
    refine ct_icmp_ge C dX12_command_86 136 (by decide) (fun hc1 => ?_) (fun hc1 => ?_)
    · have h := h.1 hc1
      refine ct_iload C dX12_command_136 3 rfl ?_
      exact ct_zret C hr hlk dX12_command_138 h.1.1 h.2
    · have h := h.2 hc1
      refine ct_iload C dX12_command_89 3 rfl ?_
      refine ct_if_eq C dX12_command_91 136 (by decide) (fun hc2 => ?_) (fun hc2 => ?_)
      · have h := h.1 hc2
        refine ct_iload C dX12_command_136 3 rfl ?_
        exact ct_zret C hr hlk dX12_command_138 h.1.1 h.2
      · have h := h.2 hc2
        refine ct_aload_n C dX12_command_94 0 rfl rfl ?_
        refine gf_X12_35 C dX12_command_95 kv0 ?_
        have hk3 := ct_t12_11 kv0
        refine ct_iload_n C dX12_command_98 1 rfl rfl ?_
        refine ct_callSi (As := [.int v2]) C (c_X12_at l D cy o  h) kv_X12_88 rfl rfl (Nat.le_of_ble_eq_true rfl) ⟨rfl, rfl, Nat.le_of_ble_eq_true rfl, Nat.le_of_ble_eq_true rfl⟩ ⟨Nat.zero_le _, Nat.zero_le _⟩ dX12_command_99 (fun r5 m4 h => ?_)
        refine ct_iconst C dX12_command_102 (0 : Int32) (by decide) ?_
        refine ct_iadd C dX12_command_103 ?_
        refine ct_iald C dX12_command_104 hk3 h.1 ?_
        have h := h.2
        refine ct_if_ne C dX12_command_105 112 (by decide) (fun hc6 => ?_) (fun hc6 => ?_)
        · have h := h.1 hc6
          refine ct_iconst C dX12_command_112 (0 : Int32) (by decide) ?_
          refine ct_sub [0, 1, 2, 4] [(0, .ref (o + v0)), (2, .int v2), (3, .int v3), (7, .int v7)] rfl ?_
          exact kb_X12_command_113 C hr hlk ih kv0 h
        · have h := h.2 hc6
          refine ct_iconst C dX12_command_108 (1 : Int32) (by decide) ?_
          refine ct_goto C dX12_command_109 113 (by decide) ?_
          refine ct_sub [0, 1, 2, 4] [(0, .ref (o + v0)), (2, .int v2), (3, .int v3), (7, .int v7)] rfl ?_
          exact kb_X12_command_113 C hr hlk ih kv0 h
set_option maxHeartbeats 4000000 in
set_option maxRecDepth 100000 in
theorem kb_X12_command_78 {p : Program} {l : Launch} {e : Env} {s : State} {mth : MethodId} {args : Array Value} {below : List Frame} {meth : Method} {c : Code} {D : va_G} {cy : Nat → ClassId} {o : Nat} {Q : Int32 → ct_M → Prop} {v0 : Nat} {v2 : Int32} {v3 : Int32} {s0 : Int32} {m : ct_M} (C : ct_Cx p s mth c cX12_command 8 args RX12 D cy) (hr : meth.sig.returnType = (some .boolean)) (hlk : meth.locks = false) (kv0 : ct_K 12 v0) (h : wb_X12_command_78 Q v0 v2 v3 s0 m) : ct_J p l e rm_X12_command s mth args below meth c 8 D cy o ct_NN 0 0 (MQ below (va_Qi Q (ct_P D cy o ct_NN) (fun q => o ≤ q)) args s 0 0 (fun q => o ≤ q)) m 78 [(0, .ref (o + v0)), (2, .int v2), (3, .int v3)] [.int s0] := by
  unfold wb_X12_command_78 at h
  refine ct_istore C dX12_command_78 [(6, .int s0), (0, .ref (o + v0)), (2, .int v2), (3, .int v3)] (by decide) rfl ?_
  refine ct_iconst C dX12_command_80 (0 : Int32) (by decide) ?_
  refine ct_istore C dX12_command_81 [(7, .int (0 : Int32)), (6, .int s0), (0, .ref (o + v0)), (2, .int v2), (3, .int v3)] (by decide) rfl ?_
  refine ct_sub [2, 3, 4, 1, 0] [(0, .ref (o + v0)), (2, .int v2), (3, .int v3), (6, .int s0), (7, .int (0 : Int32))] rfl ?_
  obtain ⟨n1, h⟩ := h
  exact kb_X12_command_83 C hr hlk  n1 _ _ _ _ _ _ kv0 h
set_option maxHeartbeats 4000000 in
set_option maxRecDepth 100000 in
theorem kb_X12_command_77 {p : Program} {l : Launch} {e : Env} {s : State} {mth : MethodId} {args : Array Value} {below : List Frame} {meth : Method} {c : Code} {D : va_G} {cy : Nat → ClassId} {o : Nat} {Q : Int32 → ct_M → Prop} {v0 : Nat} {v2 : Int32} {v3 : Int32} {m : ct_M} (C : ct_Cx p s mth c cX12_command 8 args RX12 D cy) (hr : meth.sig.returnType = (some .boolean)) (hlk : meth.locks = false) (kv0 : ct_K 12 v0) (h : wb_X12_command_77 Q v0 v2 v3 m) : ct_J p l e rm_X12_command s mth args below meth c 8 D cy o ct_NN 0 0 (MQ below (va_Qi Q (ct_P D cy o ct_NN) (fun q => o ≤ q)) args s 0 0 (fun q => o ≤ q)) m 77 [(0, .ref (o + v0)), (2, .int v2), (3, .int v3)] [] := by
  unfold wb_X12_command_77 at h
  refine ct_iconst C dX12_command_77 (0 : Int32) (by decide) ?_
  refine ct_sub [0, 1, 2] [(0, .ref (o + v0)), (2, .int v2), (3, .int v3)] rfl ?_
  exact kb_X12_command_78 C hr hlk  kv0 h
set_option maxHeartbeats 4000000 in
set_option maxRecDepth 100000 in
theorem kb_X12_command_27 {p : Program} {l : Launch} {e : Env} {s : State} {mth : MethodId} {args : Array Value} {below : List Frame} {meth : Method} {c : Code} {D : va_G} {cy : Nat → ClassId} {o : Nat} {Q : Int32 → ct_M → Prop} {v0 : Nat} {v1 : Int32} {v2 : Int32} {v3 : Int32} {v4 : Int32} {s0 : Int32} {m : ct_M} (C : ct_Cx p s mth c cX12_command 8 args RX12 D cy) (hr : meth.sig.returnType = (some .boolean)) (hlk : meth.locks = false) (kv0 : ct_K 12 v0) (h : wb_X12_command_27 Q v0 v1 v2 v3 v4 s0 m) : ct_J p l e rm_X12_command s mth args below meth c 8 D cy o ct_NN 0 0 (MQ below (va_Qi Q (ct_P D cy o ct_NN) (fun q => o ≤ q)) args s 0 0 (fun q => o ≤ q)) m 27 [(0, .ref (o + v0)), (1, .int v1), (2, .int v2), (3, .int v3), (4, .int v4)] [.int s0] := by
  unfold wb_X12_command_27 at h
  refine ct_istore C dX12_command_27 [(5, .int s0), (0, .ref (o + v0)), (1, .int v1), (2, .int v2), (3, .int v3), (4, .int v4)] (by decide) rfl ?_
  refine ct_iload_n C dX12_command_29 2 rfl rfl ?_
  by_cases hc1 : v1 = (1 : Int32)
  · have h := h.1 hc1
    refine ct_tableIn (off := 34) C dX12_command_30 64 (by rw [hc1]; decide) (by rw [hc1]; decide) (by rw [hc1]; decide) (by decide) ?_
    refine ct_iload C dX12_command_64 5 rfl ?_
    refine ct_if_eq C dX12_command_66 77 (by decide) (fun hc2 => ?_) (fun hc2 => ?_)
    · have h := h.1 hc2
      refine ct_sub [1, 3, 4] [(0, .ref (o + v0)), (2, .int v2), (3, .int v3)] rfl ?_
      exact kb_X12_command_77 C hr hlk  kv0 h
    · have h := h.2 hc2
      refine ct_iload_n C dX12_command_69 4 rfl rfl ?_
      refine ct_if_le C dX12_command_70 77 (by decide) (fun hc3 => ?_) (fun hc3 => ?_)
      · have h := h.1 hc3
        refine ct_sub [1, 3, 4] [(0, .ref (o + v0)), (2, .int v2), (3, .int v3)] rfl ?_
        exact kb_X12_command_77 C hr hlk  kv0 h
      · have h := h.2 hc3
        refine ct_iconst C dX12_command_73 (1 : Int32) (by decide) ?_
        refine ct_goto C dX12_command_74 78 (by decide) ?_
        refine ct_sub [1, 3, 4] [(0, .ref (o + v0)), (2, .int v2), (3, .int v3)] rfl ?_
        exact kb_X12_command_78 C hr hlk  kv0 h
  · have h := h.2 hc1
    by_cases hc4 : v1 = (2 : Int32)
    · have h := h.1 hc4
      refine ct_tableIn (off := 109) C dX12_command_30 139 (by rw [hc4]; decide) (by rw [hc4]; decide) (by rw [hc4]; decide) (by decide) ?_
      refine ct_iload C dX12_command_139 5 rfl ?_
      refine ct_if_eq C dX12_command_141 163 (by decide) (fun hc5 => ?_) (fun hc5 => ?_)
      · have h := h.1 hc5
        refine ct_iconst C dX12_command_163 (0 : Int32) (by decide) ?_
        exact ct_zret C hr hlk dX12_command_164 (by decide) h
      · have h := h.2 hc5
        refine ct_aload_n C dX12_command_144 1 rfl rfl ?_
        refine gf_X12_35 C dX12_command_145 kv0 ?_
        have hk6 := ct_t12_11 kv0
        refine ct_iload_n C dX12_command_148 3 rfl rfl ?_
        refine ct_callSi (As := [.int v2]) C (c_X12_at l D cy o  h) kv_X12_88 rfl rfl (Nat.le_of_ble_eq_true rfl) ⟨rfl, rfl, Nat.le_of_ble_eq_true rfl, Nat.le_of_ble_eq_true rfl⟩ ⟨Nat.zero_le _, Nat.zero_le _⟩ dX12_command_149 (fun r8 m7 h => ?_)
        refine ct_iconst C dX12_command_152 (0 : Int32) (by decide) ?_
        refine ct_iadd C dX12_command_153 ?_
        refine ct_iald C dX12_command_154 hk6 h.1 ?_
        have h := h.2
        refine ct_iload_n C dX12_command_155 4 rfl rfl ?_
        refine ct_icmp_ne C dX12_command_156 163 (by decide) (fun hc9 => ?_) (fun hc9 => ?_)
        · have h := h.1 hc9
          refine ct_iconst C dX12_command_163 (0 : Int32) (by decide) ?_
          exact ct_zret C hr hlk dX12_command_164 (by decide) h
        · have h := h.2 hc9
          refine ct_iconst C dX12_command_159 (1 : Int32) (by decide) ?_
          refine ct_goto C dX12_command_160 164 (by decide) ?_
          exact ct_zret C hr hlk dX12_command_164 (by decide) h
    · have h := h.2 hc4
      by_cases hc10 : v1 = (3 : Int32)
      · have h := h.1 hc10
        refine ct_tableIn (off := 135) C dX12_command_30 165 (by rw [hc10]; decide) (by rw [hc10]; decide) (by rw [hc10]; decide) (by decide) ?_
        refine ct_iload C dX12_command_165 0 rfl ?_
        refine ct_if_eq C dX12_command_167 184 (by decide) (fun hc11 => ?_) (fun hc11 => ?_)
        · have h := h.1 hc11
          refine ct_iconst C dX12_command_184 (0 : Int32) (by decide) ?_
          exact ct_zret C hr hlk dX12_command_185 (by decide) h
        · have h := h.2 hc11
          refine ct_aload_n C dX12_command_170 1 rfl rfl ?_
          refine gf_X12_35 C dX12_command_171 kv0 ?_
          have hk12 := ct_t12_11 kv0
          refine ct_iload_n C dX12_command_174 3 rfl rfl ?_
          refine ct_iald C dX12_command_175 hk12 h.1 ?_
          have h := h.2
          refine ct_iload_n C dX12_command_176 4 rfl rfl ?_
          refine ct_icmp_ne C dX12_command_177 184 (by decide) (fun hc13 => ?_) (fun hc13 => ?_)
          · have h := h.1 hc13
            refine ct_iconst C dX12_command_184 (0 : Int32) (by decide) ?_
            exact ct_zret C hr hlk dX12_command_185 (by decide) h
          · have h := h.2 hc13
            refine ct_iconst C dX12_command_180 (1 : Int32) (by decide) ?_
            refine ct_goto C dX12_command_181 185 (by decide) ?_
            exact ct_zret C hr hlk dX12_command_185 (by decide) h
      · have h := h.2 hc10
        by_cases hc14 : v1 = (4 : Int32)
        · have h := h.1 hc14
          refine ct_tableIn (off := 156) C dX12_command_30 186 (by rw [hc14]; decide) (by rw [hc14]; decide) (by rw [hc14]; decide) (by decide) ?_
          refine ct_iload C dX12_command_186 0 rfl ?_
          refine ct_if_eq C dX12_command_188 208 (by decide) (fun hc15 => ?_) (fun hc15 => ?_)
          · have h := h.1 hc15
            refine ct_iconst C dX12_command_208 (0 : Int32) (by decide) ?_
            exact ct_zret C hr hlk dX12_command_209 (by decide) h
          · have h := h.2 hc15
            refine ct_aload_n C dX12_command_191 1 rfl rfl ?_
            refine gf_X12_35 C dX12_command_192 kv0 ?_
            have hk16 := ct_t12_11 kv0
            refine ct_bipush C dX12_command_195 (6 : Int32) (by decide) ?_
            refine ct_iload_n C dX12_command_197 3 rfl rfl ?_
            refine ct_iadd C dX12_command_198 ?_
            refine ct_iald C dX12_command_199 hk16 h.1 ?_
            have h := h.2
            refine ct_iload_n C dX12_command_200 4 rfl rfl ?_
            refine ct_icmp_ne C dX12_command_201 208 (by decide) (fun hc17 => ?_) (fun hc17 => ?_)
            · have h := h.1 hc17
              refine ct_iconst C dX12_command_208 (0 : Int32) (by decide) ?_
              exact ct_zret C hr hlk dX12_command_209 (by decide) h
            · have h := h.2 hc17
              refine ct_iconst C dX12_command_204 (1 : Int32) (by decide) ?_
              refine ct_goto C dX12_command_205 209 (by decide) ?_
              exact ct_zret C hr hlk dX12_command_209 (by decide) h
        · have h := h.2 hc14
          by_cases hc18 : v1 = (5 : Int32)
          · have h := h.1 hc18
            refine ct_tableIn (off := 180) C dX12_command_30 210 (by rw [hc18]; decide) (by rw [hc18]; decide) (by rw [hc18]; decide) (by decide) ?_
            refine ct_iload C dX12_command_210 5 rfl ?_
            refine ct_if_eq C dX12_command_212 235 (by decide) (fun hc19 => ?_) (fun hc19 => ?_)
            · have h := h.1 hc19
              refine ct_iconst C dX12_command_235 (0 : Int32) (by decide) ?_
              exact ct_zret C hr hlk dX12_command_236 (by decide) h
            · have h := h.2 hc19
              refine ct_aload_n C dX12_command_215 1 rfl rfl ?_
              refine gf_X12_35 C dX12_command_216 kv0 ?_
              have hk20 := ct_t12_11 kv0
              refine ct_iload_n C dX12_command_219 3 rfl rfl ?_
              refine ct_callSi (As := [.int v2]) C (c_X12_at l D cy o  h) kv_X12_88 rfl rfl (Nat.le_of_ble_eq_true rfl) ⟨rfl, rfl, Nat.le_of_ble_eq_true rfl, Nat.le_of_ble_eq_true rfl⟩ ⟨Nat.zero_le _, Nat.zero_le _⟩ dX12_command_220 (fun r22 m21 h => ?_)
              refine ct_bipush C dX12_command_223 (48 : Int32) (by decide) ?_
              refine ct_iadd C dX12_command_225 ?_
              refine ct_iald C dX12_command_226 hk20 h.1 ?_
              have h := h.2
              refine ct_iload_n C dX12_command_227 4 rfl rfl ?_
              refine ct_icmp_ne C dX12_command_228 235 (by decide) (fun hc23 => ?_) (fun hc23 => ?_)
              · have h := h.1 hc23
                refine ct_iconst C dX12_command_235 (0 : Int32) (by decide) ?_
                exact ct_zret C hr hlk dX12_command_236 (by decide) h
              · have h := h.2 hc23
                refine ct_iconst C dX12_command_231 (1 : Int32) (by decide) ?_
                refine ct_goto C dX12_command_232 236 (by decide) ?_
                exact ct_zret C hr hlk dX12_command_236 (by decide) h
          · have h := h.2 hc18
            have thc1 := lv_neT hc1 (a := 1) (by decide)
            have thc4 := lv_neT hc4 (a := 2) (by decide)
            have thc10 := lv_neT hc10 (a := 3) (by decide)
            have thc14 := lv_neT hc14 (a := 4) (by decide)
            have thc18 := lv_neT hc18 (a := 5) (by decide)
            refine ct_tableOut C dX12_command_30 237 (by omega) (by decide) ?_
            refine ct_iconst C dX12_command_237 (0 : Int32) (by decide) ?_
            exact ct_zret C hr hlk dX12_command_238 (by decide) h
set_option maxHeartbeats 4000000 in
set_option maxRecDepth 100000 in
theorem kb_X12_command_13 {p : Program} {l : Launch} {e : Env} {s : State} {mth : MethodId} {args : Array Value} {below : List Frame} {meth : Method} {c : Code} {D : va_G} {cy : Nat → ClassId} {o : Nat} {Q : Int32 → ct_M → Prop} {v0 : Nat} {v1 : Int32} {v2 : Int32} {v3 : Int32} {s0 : Int32} {m : ct_M} (C : ct_Cx p s mth c cX12_command 8 args RX12 D cy) (hr : meth.sig.returnType = (some .boolean)) (hlk : meth.locks = false) (kv0 : ct_K 12 v0) (h : wb_X12_command_13 Q v0 v1 v2 v3 s0 m) : ct_J p l e rm_X12_command s mth args below meth c 8 D cy o ct_NN 0 0 (MQ below (va_Qi Q (ct_P D cy o ct_NN) (fun q => o ≤ q)) args s 0 0 (fun q => o ≤ q)) m 13 [(0, .ref (o + v0)), (1, .int v1), (2, .int v2), (3, .int v3)] [.int s0] := by
  unfold wb_X12_command_13 at h
  refine ct_istore C dX12_command_13 [(4, .int s0), (0, .ref (o + v0)), (1, .int v1), (2, .int v2), (3, .int v3)] (by decide) rfl ?_
  refine ct_iload_n C dX12_command_15 3 rfl rfl ?_
  refine ct_callSi (As := [.int v2]) C (c_X12_noCell l D cy o  h) kv_X12_192 rfl rfl (Nat.le_of_ble_eq_true rfl) ⟨rfl, rfl, Nat.le_of_ble_eq_true rfl, Nat.le_of_ble_eq_true rfl⟩ ⟨Nat.zero_le _, Nat.zero_le _⟩ dX12_command_16 (fun r2 m1 h => ?_)
  refine ct_if_ne C dX12_command_19 26 (by decide) (fun hc3 => ?_) (fun hc3 => ?_)
  · have h := h.1 hc3
    refine ct_iconst C dX12_command_26 (0 : Int32) (by decide) ?_
    refine ct_sub [1, 2, 3, 4, 0] [(0, .ref (o + v0)), (1, .int v1), (2, .int v2), (3, .int v3), (4, .int s0)] rfl ?_
    exact kb_X12_command_27 C hr hlk  kv0 h
  · have h := h.2 hc3
    refine ct_iconst C dX12_command_22 (1 : Int32) (by decide) ?_
    refine ct_goto C dX12_command_23 27 (by decide) ?_
    refine ct_sub [1, 2, 3, 4, 0] [(0, .ref (o + v0)), (1, .int v1), (2, .int v2), (3, .int v3), (4, .int s0)] rfl ?_
    exact kb_X12_command_27 C hr hlk  kv0 h
set_option maxHeartbeats 4000000 in
set_option maxRecDepth 100000 in
theorem c_X12_command (l : Launch) (D : va_G) (cy : Nat → ClassId) (o : Nat) {a0 : Nat} {p1 : Int32} {p2 : Int32} {p3 : Int32} {Q : Int32 → ct_M → Prop} {m : ct_M} (ka0 : ct_K 12 a0) (h : wp_X12_command a0 p1 p2 p3 Q m) : Met l yX12_command (ct_ws yX12_command cX12_command 8 (some .boolean)) rm_X12_command (va_Pc [.ref (o + a0), .int p1, .int p2, .int p3] (ct_P D cy o ct_NN m)) (va_Qi Q (ct_P D cy o ct_NN) (fun q => o ≤ q)) 0 0 (fun q => o ≤ q) := by
  refine ct_met l D cy o ct_NN m (by decide) (Nat.le_of_ble_eq_true rfl) (fun p e s mth args below meth c C hr hlk => ?_)
  refine ct_sub [0, 1, 2, 3] [(0, .ref (o + a0)), (1, .int p1), (2, .int p2), (3, .int p3)] rfl ?_
  unfold wp_X12_command at h
  refine ct_aload_n C dX12_command_0 0 rfl rfl ?_
  refine ct_iload_n C dX12_command_1 2 rfl rfl ?_
  refine ct_callVi (As := [.int p2]) (T := TX12) C (c_X12_noThread l D cy o ka0 h) kv_X12_195 ka0.1 (ct_E12 ka0) rfl rfl rfl (Nat.le_of_ble_eq_true rfl) ⟨rfl, rfl, Nat.le_of_ble_eq_true rfl, Nat.le_of_ble_eq_true rfl⟩ ⟨Nat.zero_le _, Nat.zero_le _⟩ dX12_command_2 (fun r2 m1 h => ?_)
  refine ct_if_ne C dX12_command_5 12 (by decide) (fun hc3 => ?_) (fun hc3 => ?_)
  · have h := h.1 hc3
    refine ct_iconst C dX12_command_12 (0 : Int32) (by decide) ?_
    refine ct_sub [0, 1, 2, 3] [(0, .ref (o + a0)), (1, .int p1), (2, .int p2), (3, .int p3)] rfl ?_
    exact kb_X12_command_13 C hr hlk  ka0 h
  · have h := h.2 hc3
    refine ct_iconst C dX12_command_8 (1 : Int32) (by decide) ?_
    refine ct_goto C dX12_command_9 13 (by decide) ?_
    refine ct_sub [0, 1, 2, 3] [(0, .ref (o + a0)), (1, .int p1), (2, .int p2), (3, .int p3)] rfl ?_
    exact kb_X12_command_13 C hr hlk  ka0 h
abbrev rm_X12_thousands : Room := { frames := 0, cells := 0, slots := 0, locals := 0 }
set_option maxHeartbeats 4000000 in
set_option maxRecDepth 100000 in
theorem kb_X12_thousands_4 {p : Program} {l : Launch} {e : Env} {s : State} {mth : MethodId} {args : Array Value} {below : List Frame} {meth : Method} {c : Code} {D : va_G} {cy : Nat → ClassId} {o : Nat} {Q : Int64 → ct_M → Prop} (C : ct_Cx p s mth c cX12_thousands 4 args RX12 D cy) (hr : meth.sig.returnType = (some .long)) (hlk : meth.locks = false) : ∀ (n : Nat) (v0 : Int32) (v1 : Int64) (v3 : Int32) (m : ct_M), wb_X12_thousands_4 Q n v0 v1 v3 m → ct_J p l e rm_X12_thousands s mth args below meth c 4 D cy o ct_NN 0 0 (MQ below (va_Ql Q (ct_P D cy o ct_NN) (fun q => o ≤ q)) args s 0 0 (fun q => o ≤ q)) m 4 [(0, .int v0), (1, .long v1), (3, .int v3)] [] := by
  intro n
  induction n with
  | zero => intro v0 v1 v3 m h; exact h.elim
  | succ n ih =>
    intro v0 v1 v3 m h
    unfold wb_X12_thousands_4 at h
    refine ct_iload_n C dX12_thousands_4 2 rfl rfl ?_
    refine ct_iload_n C dX12_thousands_5 0 rfl rfl ?_
    refine ct_icmp_ge C dX12_thousands_6 21 (by decide) (fun hc1 => ?_) (fun hc1 => ?_)
    · have h := h.1 hc1
      refine ct_lload_n C dX12_thousands_21 1 rfl rfl ?_
      exact ct_lret C hr hlk dX12_thousands_22 h
    · have h := h.2 hc1
      refine ct_lload_n C dX12_thousands_9 1 rfl rfl ?_
      refine ct_ldc2 C dX12_thousands_10 mw_599 ?_
      refine ct_lmul C dX12_thousands_13 ?_
      refine ct_topl (fun x2 ex2 => ?_)
      have h := h x2 ex2
      refine ct_lstore_n C dX12_thousands_14 [(1, .long x2), (0, .int v0), (3, .int v3)] rfl (by decide) rfl ?_
      obtain ⟨x3, ex3⟩ : ∃ z : Int32, z = v3 + (1 : Int32) := ⟨_, rfl⟩
      have h := h x3 ex3
      refine ct_iinc (k := 2) (v := x3) C dX12_thousands_15 [(3, .int x3), (1, .long x2), (0, .int v0)] rfl (by rw [ex3]; rfl) (by decide) rfl ?_
      refine ct_goto C dX12_thousands_18 4 (by decide) ?_
      refine ct_sub [2, 1, 0] [(0, .int v0), (1, .long x2), (3, .int x3)] rfl ?_
      exact ih _ _ _ _ h
set_option maxHeartbeats 4000000 in
set_option maxRecDepth 100000 in
theorem c_X12_thousands (l : Launch) (D : va_G) (cy : Nat → ClassId) (o : Nat) {p0 : Int32} {Q : Int64 → ct_M → Prop} {m : ct_M} (h : wp_X12_thousands p0 Q m) : Met l yX12_thousands (ct_ws yX12_thousands cX12_thousands 4 (some .long)) rm_X12_thousands (va_Pc [.int p0] (ct_P D cy o ct_NN m)) (va_Ql Q (ct_P D cy o ct_NN) (fun q => o ≤ q)) 0 0 (fun q => o ≤ q) := by
  refine ct_met l D cy o ct_NN m (by decide) (Nat.le_of_ble_eq_true rfl) (fun p e s mth args below meth c C hr hlk => ?_)
  refine ct_sub [0] [(0, .int p0)] rfl ?_
  unfold wp_X12_thousands at h
  refine ct_lconst C dX12_thousands_0 (1 : Int64) (by decide) ?_
  refine ct_lstore_n C dX12_thousands_1 [(1, .long (1 : Int64)), (0, .int p0)] rfl (by decide) rfl ?_
  refine ct_iconst C dX12_thousands_2 (0 : Int32) (by decide) ?_
  refine ct_istore_n C dX12_thousands_3 [(3, .int (0 : Int32)), (1, .long (1 : Int64)), (0, .int p0)] rfl (by decide) rfl ?_
  refine ct_sub [2, 1, 0] [(0, .int p0), (1, .long (1 : Int64)), (3, .int (0 : Int32))] rfl ?_
  obtain ⟨n1, h⟩ := h
  exact kb_X12_thousands_4 C hr hlk  n1 _ _ _ _  h
abbrev rm_X12_runScript : Room := { frames := 8, cells := 0, slots := 0, locals := 184 }
set_option maxHeartbeats 4000000 in
set_option maxRecDepth 100000 in
theorem kb_X12_runScript_48 {p : Program} {l : Launch} {e : Env} {s : State} {mth : MethodId} {args : Array Value} {below : List Frame} {meth : Method} {c : Code} {D : va_G} {cy : Nat → ClassId} {o : Nat} {Q : Int32 → ct_M → Prop} (C : ct_Cx p s mth c cX12_runScript 6 args RX12 D cy) (hr : meth.sig.returnType = (some .int)) (hlk : meth.locks = false) : ∀ (n : Nat) (v0 : Nat) (v1 : Int32) (v2 : Int64) (v4 : Int32) (m : ct_M) (kv0 : ct_K 12 v0), wb_X12_runScript_48 Q n v0 v1 v2 v4 m → ct_J p l e rm_X12_runScript s mth args below meth c 6 D cy o ct_NN 0 0 (MQ below (va_Qi Q (ct_P D cy o ct_NN) (fun q => o ≤ q)) args s 0 0 (fun q => o ≤ q)) m 48 [(0, .ref (o + v0)), (1, .int v1), (2, .long v2), (4, .int v4)] [] := by
  intro n
  induction n with
  | zero => intro v0 v1 v2 v4 m kv0 h; exact h.elim
  | succ n ih =>
    intro v0 v1 v2 v4 m kv0 h
    unfold wb_X12_runScript_48 at h
    refine ct_iload C dX12_runScript_48 3 rfl ?_
    refine ct_iload_n C dX12_runScript_50 1 rfl rfl ?_
    refine ct_icmp_ge C dX12_runScript_51 106 (by decide) (fun hc1 => ?_) (fun hc1 => ?_)
    · have h := h.1 hc1
      refine ct_bipush C dX12_runScript_106 (-9 : Int32) (by decide) ?_
      exact ct_ireti C hr hlk dX12_runScript_108 h
    · have h := h.2 hc1
      refine ct_lload_n C dX12_runScript_54 2 rfl rfl ?_
      refine ct_iload_n C dX12_runScript_55 1 rfl rfl ?_
      refine ct_iconst C dX12_runScript_56 (1 : Int32) (by decide) ?_
      refine ct_isub C dX12_runScript_57 ?_
      refine ct_iload C dX12_runScript_58 3 rfl ?_
      refine ct_isub C dX12_runScript_60 ?_
      refine ct_callSl (As := [.int ((v1 - (1 : Int32)) - v4)]) C (c_X12_thousands l D cy o  h) kv_X12_262 rfl rfl (Nat.le_of_ble_eq_true rfl) ⟨rfl, rfl, Nat.le_of_ble_eq_true rfl, Nat.le_of_ble_eq_true rfl⟩ ⟨Nat.zero_le _, Nat.zero_le _⟩ dX12_runScript_61 (fun r3 m2 h => ?_)
      refine ct_ldiv C dX12_runScript_64 h.1 ?_
      have h := h.2
      refine ct_ldc2 C dX12_runScript_65 mw_599 ?_
      refine ct_lrem C dX12_runScript_68 (by decide) ?_
      refine ct_l2i C dX12_runScript_69 ?_
      refine ct_topi (fun x4 ex4 => ?_)
      have h := h x4 ex4
      refine ct_istore C dX12_runScript_70 [(5, .int x4), (0, .ref (o + v0)), (1, .int v1), (2, .long v2), (4, .int v4)] (by decide) rfl ?_
      refine ct_aload_n C dX12_runScript_72 1 rfl rfl ?_
      refine ct_iload C dX12_runScript_73 0 rfl ?_
      refine ct_bipush C dX12_runScript_75 (100 : Int32) (by decide) ?_
      refine ct_idiv C dX12_runScript_77 (by decide) ?_
      refine ct_iload C dX12_runScript_78 0 rfl ?_
      refine ct_bipush C dX12_runScript_80 (10 : Int32) (by decide) ?_
      refine ct_idiv C dX12_runScript_82 (by decide) ?_
      refine ct_bipush C dX12_runScript_83 (10 : Int32) (by decide) ?_
      refine ct_irem C dX12_runScript_85 (by decide) ?_
      refine ct_iload C dX12_runScript_86 0 rfl ?_
      refine ct_bipush C dX12_runScript_88 (10 : Int32) (by decide) ?_
      refine ct_irem C dX12_runScript_90 (by decide) ?_
      refine ct_callVi (As := [.int (x4 / (100 : Int32)), .int ((x4 / (10 : Int32)) - (x4 / (10 : Int32)) / (10 : Int32) * (10 : Int32)), .int (x4 - x4 / (10 : Int32) * (10 : Int32))]) (T := TX12) C (c_X12_command l D cy o kv0 h) kv_X12_266 kv0.1 (ct_E12 kv0) rfl rfl rfl (Nat.le_of_ble_eq_true rfl) ⟨rfl, rfl, Nat.le_of_ble_eq_true rfl, Nat.le_of_ble_eq_true rfl⟩ ⟨Nat.zero_le _, Nat.zero_le _⟩ dX12_runScript_91 (fun r6 m5 h => ?_)
      refine ct_if_ne C dX12_runScript_94 100 (by decide) (fun hc7 => ?_) (fun hc7 => ?_)
      · have h := h.1 hc7
        obtain ⟨x8, ex8⟩ : ∃ z : Int32, z = v4 + (1 : Int32) := ⟨_, rfl⟩
        have h := h x8 ex8
        refine ct_iinc (k := 4) (v := x8) C dX12_runScript_100 [(4, .int x8), (5, .int x4), (0, .ref (o + v0)), (1, .int v1), (2, .long v2)] rfl (by rw [ex8]; rfl) (by decide) rfl ?_
        refine ct_goto C dX12_runScript_103 48 (by decide) ?_
        refine ct_sub [2, 3, 4, 0] [(0, .ref (o + v0)), (1, .int v1), (2, .long v2), (4, .int x8)] rfl ?_
        exact ih _ _ _ _ _ kv0 h
      · have h := h.2 hc7
        refine ct_iload C dX12_runScript_97 4 rfl ?_
        exact ct_ireti C hr hlk dX12_runScript_99 h
set_option maxHeartbeats 4000000 in
set_option maxRecDepth 100000 in
theorem c_X12_runScript (l : Launch) (D : va_G) (cy : Nat → ClassId) (o : Nat) {a0 : Nat} {p1 : Int32} {p2 : Int64} {Q : Int32 → ct_M → Prop} {m : ct_M} (ka0 : ct_K 12 a0) (h : wp_X12_runScript a0 p1 p2 Q m) : Met l yX12_runScript (ct_ws yX12_runScript cX12_runScript 6 (some .int)) rm_X12_runScript (va_Pc [.ref (o + a0), .int p1, .long p2] (ct_P D cy o ct_NN m)) (va_Qi Q (ct_P D cy o ct_NN) (fun q => o ≤ q)) 0 0 (fun q => o ≤ q) := by
  refine ct_met l D cy o ct_NN m (by decide) (Nat.le_of_ble_eq_true rfl) (fun p e s mth args below meth c C hr hlk => ?_)
  refine ct_sub [0, 1, 2] [(0, .ref (o + a0)), (1, .int p1), (2, .long p2)] rfl ?_
  unfold wp_X12_runScript at h
  refine ct_aload_n C dX12_runScript_0 0 rfl rfl ?_
  refine ct_iconst C dX12_runScript_1 (0 : Int32) (by decide) ?_
  refine pf_X12_85 C dX12_runScript_2 ka0 ?_
  refine ct_mem (fun m1 em1 => ?_)
  have h := h m1 em1
  refine ct_iload_n C dX12_runScript_5 1 rfl rfl ?_
  refine ct_i2l C dX12_runScript_6 ?_
  refine ct_lconst C dX12_runScript_7 (1 : Int64) (by decide) ?_
  refine ct_ldc2 C dX12_runScript_8 mw_607 ?_
  refine ct_callSi (As := [.long p1.toInt64, .long (1 : Int64), .long (4 : Int64)]) C (c_X12_in l D cy o  h) kv_X12_148 rfl rfl (Nat.le_of_ble_eq_true rfl) ⟨rfl, rfl, Nat.le_of_ble_eq_true rfl, Nat.le_of_ble_eq_true rfl⟩ ⟨Nat.zero_le _, Nat.zero_le _⟩ dX12_runScript_11 (fun r3 m2 h => ?_)
  refine ct_if_eq C dX12_runScript_14 31 (by decide) (fun hc4 => ?_) (fun hc4 => ?_)
  · have h := h.1 hc4
    refine ct_bipush C dX12_runScript_31 (-2 : Int32) (by decide) ?_
    exact ct_ireti C hr hlk dX12_runScript_33 h
  · have h := h.2 hc4
    refine ct_lload_n C dX12_runScript_17 2 rfl rfl ?_
    refine ct_lconst C dX12_runScript_18 (0 : Int64) (by decide) ?_
    refine ct_iload_n C dX12_runScript_19 1 rfl rfl ?_
    refine ct_callSl (As := [.int p1]) C (c_X12_thousands l D cy o  h) kv_X12_262 rfl rfl (Nat.le_of_ble_eq_true rfl) ⟨rfl, rfl, Nat.le_of_ble_eq_true rfl, Nat.le_of_ble_eq_true rfl⟩ ⟨Nat.zero_le _, Nat.zero_le _⟩ dX12_runScript_20 (fun r6 m5 h => ?_)
    refine ct_lconst C dX12_runScript_23 (1 : Int64) (by decide) ?_
    refine ct_lsub C dX12_runScript_24 ?_
    refine ct_callSi (As := [.long p2, .long (0 : Int64), .long (r6 - (1 : Int64))]) C (c_X12_in l D cy o  h) kv_X12_148 rfl rfl (Nat.le_of_ble_eq_true rfl) ⟨rfl, rfl, Nat.le_of_ble_eq_true rfl, Nat.le_of_ble_eq_true rfl⟩ ⟨Nat.zero_le _, Nat.zero_le _⟩ dX12_runScript_25 (fun r8 m7 h => ?_)
    refine ct_if_ne C dX12_runScript_28 34 (by decide) (fun hc9 => ?_) (fun hc9 => ?_)
    · have h := h.1 hc9
      refine ct_aload_n C dX12_runScript_34 0 rfl rfl ?_
      refine gf_X12_32 C dX12_runScript_35 ka0 ?_
      have hk10 := ct_t12_10 ka0
      refine ct_aload_n C dX12_runScript_38 0 rfl rfl ?_
      refine gf_X12_35 C dX12_runScript_39 ka0 ?_
      have hk11 := ct_t12_11 ka0
      refine ct_callSv (As := [.ref (o + (a0 + 7)), .ref (o + (a0 + 8))]) C (c_X12_assign l D cy o hk10 hk11 h) kv_X12_224 rfl rfl (Nat.le_of_ble_eq_true rfl) ⟨rfl, rfl, Nat.le_of_ble_eq_true rfl, Nat.le_of_ble_eq_true rfl⟩ ⟨Nat.zero_le _, Nat.zero_le _⟩ dX12_runScript_42 (fun m12 h => ?_)
      refine ct_iconst C dX12_runScript_45 (0 : Int32) (by decide) ?_
      refine ct_istore C dX12_runScript_46 [(4, .int (0 : Int32)), (0, .ref (o + a0)), (1, .int p1), (2, .long p2)] (by decide) rfl ?_
      refine ct_sub [1, 2, 3, 0] [(0, .ref (o + a0)), (1, .int p1), (2, .long p2), (4, .int (0 : Int32))] rfl ?_
      obtain ⟨n13, h⟩ := h
      exact kb_X12_runScript_48 C hr hlk  n13 _ _ _ _ _ ka0 h
    · have h := h.2 hc9
      refine ct_bipush C dX12_runScript_31 (-2 : Int32) (by decide) ?_
      exact ct_ireti C hr hlk dX12_runScript_33 h
abbrev rm_X12_observe : Room := { frames := 2, cells := 0, slots := 0, locals := 45 }
set_option maxHeartbeats 4000000 in
set_option maxRecDepth 100000 in
theorem kb_X12_observe_90 {p : Program} {l : Launch} {e : Env} {s : State} {mth : MethodId} {args : Array Value} {below : List Frame} {meth : Method} {c : Code} {D : va_G} {cy : Nat → ClassId} {o : Nat} {Q : Int32 → ct_M → Prop} {v0 : Nat} {v1 : Int32} {v2 : Int32} {m : ct_M} (C : ct_Cx p s mth c cX12_observe 4 args RX12 D cy) (hr : meth.sig.returnType = (some .int)) (hlk : meth.locks = false) (kv0 : ct_K 12 v0) (h : wb_X12_observe_90 Q v0 v1 v2 m) : ct_J p l e rm_X12_observe s mth args below meth c 4 D cy o ct_NN 0 0 (MQ below (va_Qi Q (ct_P D cy o ct_NN) (fun q => o ≤ q)) args s 0 0 (fun q => o ≤ q)) m 90 [(0, .ref (o + v0)), (1, .int v1), (2, .int v2)] [] := by
  unfold wb_X12_observe_90 at h
  refine ct_aload_n C dX12_observe_90 0 rfl rfl ?_
  refine gf_X12_48 C dX12_observe_91 kv0 ?_
  have hk1 := ct_t12_17 kv0
  refine ct_aload_n C dX12_observe_94 0 rfl rfl ?_
  refine gf_X12_253 C dX12_observe_95 kv0 ?_
  refine ct_iload_n C dX12_observe_98 1 rfl rfl ?_
  refine ct_iast C dX12_observe_99 hk1 h.1 ?_
  have h := h.2
  refine ct_mem (fun m2 em2 => ?_)
  have h := h m2 em2
  refine ct_aload_n C dX12_observe_100 0 rfl rfl ?_
  refine gf_X12_51 C dX12_observe_101 kv0 ?_
  have hk3 := ct_t12_18 kv0
  refine ct_aload_n C dX12_observe_104 0 rfl rfl ?_
  refine gf_X12_253 C dX12_observe_105 kv0 ?_
  refine ct_iload_n C dX12_observe_108 2 rfl rfl ?_
  refine ct_iast C dX12_observe_109 hk3 h.1 ?_
  have h := h.2
  refine ct_mem (fun m4 em4 => ?_)
  have h := h m4 em4
  refine ct_aload_n C dX12_observe_110 0 rfl rfl ?_
  refine ct_dup C dX12_observe_111 rfl ?_
  refine gf_X12_253 C dX12_observe_112 kv0 ?_
  refine ct_iconst C dX12_observe_115 (1 : Int32) (by decide) ?_
  refine ct_iadd C dX12_observe_116 ?_
  refine pf_X12_253 C dX12_observe_117 kv0 ?_
  refine ct_mem (fun m5 em5 => ?_)
  have h := h m5 em5
  refine ct_aload_n C dX12_observe_120 0 rfl rfl ?_
  refine gf_X12_253 C dX12_observe_121 kv0 ?_
  exact ct_ireti C hr hlk dX12_observe_124 h
set_option maxHeartbeats 4000000 in
set_option maxRecDepth 100000 in
theorem kb_X12_observe_41 {p : Program} {l : Launch} {e : Env} {s : State} {mth : MethodId} {args : Array Value} {below : List Frame} {meth : Method} {c : Code} {D : va_G} {cy : Nat → ClassId} {o : Nat} {Q : Int32 → ct_M → Prop} (C : ct_Cx p s mth c cX12_observe 4 args RX12 D cy) (hr : meth.sig.returnType = (some .int)) (hlk : meth.locks = false) : ∀ (n : Nat) (v0 : Nat) (v1 : Int32) (v2 : Int32) (v3 : Int32) (m : ct_M) (kv0 : ct_K 12 v0), wb_X12_observe_41 Q n v0 v1 v2 v3 m → ct_J p l e rm_X12_observe s mth args below meth c 4 D cy o ct_NN 0 0 (MQ below (va_Qi Q (ct_P D cy o ct_NN) (fun q => o ≤ q)) args s 0 0 (fun q => o ≤ q)) m 41 [(0, .ref (o + v0)), (1, .int v1), (2, .int v2), (3, .int v3)] [] := by
  intro n
  induction n with
  | zero => intro v0 v1 v2 v3 m kv0 h; exact h.elim
  | succ n ih =>
    intro v0 v1 v2 v3 m kv0 h
    unfold wb_X12_observe_41 at h
    refine ct_iload_n C dX12_observe_41 3 rfl rfl ?_
    refine ct_iconst C dX12_observe_42 (3 : Int32) (by decide) ?_
    refine ct_icmp_ge C dX12_observe_43 80 (by decide) (fun hc1 => ?_) (fun hc1 => ?_)
    · have h := h.1 hc1
      refine ct_aload_n C dX12_observe_80 0 rfl rfl ?_
      refine ct_dup C dX12_observe_81 rfl ?_
      refine gf_X12_253 C dX12_observe_82 kv0 ?_
      refine ct_iconst C dX12_observe_85 (1 : Int32) (by decide) ?_
      refine ct_isub C dX12_observe_86 ?_
      refine pf_X12_253 C dX12_observe_87 kv0 ?_
      refine ct_mem (fun m2 em2 => ?_)
      have h := h m2 em2
      refine ct_sub [0, 1, 2] [(0, .ref (o + v0)), (1, .int v1), (2, .int v2)] rfl ?_
      exact kb_X12_observe_90 C hr hlk  kv0 h
    · have h := h.2 hc1
      refine ct_aload_n C dX12_observe_46 0 rfl rfl ?_
      refine gf_X12_48 C dX12_observe_47 kv0 ?_
      have hk3 := ct_t12_17 kv0
      refine ct_iload_n C dX12_observe_50 3 rfl rfl ?_
      refine ct_aload_n C dX12_observe_51 0 rfl rfl ?_
      refine gf_X12_48 C dX12_observe_52 kv0 ?_
      refine ct_iload_n C dX12_observe_55 3 rfl rfl ?_
      refine ct_iconst C dX12_observe_56 (1 : Int32) (by decide) ?_
      refine ct_iadd C dX12_observe_57 ?_
      refine ct_iald C dX12_observe_58 hk3 h.1 ?_
      have h := h.2
      refine ct_iast C dX12_observe_59 hk3 h.1 ?_
      have h := h.2
      refine ct_mem (fun m4 em4 => ?_)
      have h := h m4 em4
      refine ct_aload_n C dX12_observe_60 0 rfl rfl ?_
      refine gf_X12_51 C dX12_observe_61 kv0 ?_
      have hk5 := ct_t12_18 kv0
      refine ct_iload_n C dX12_observe_64 3 rfl rfl ?_
      refine ct_aload_n C dX12_observe_65 0 rfl rfl ?_
      refine gf_X12_51 C dX12_observe_66 kv0 ?_
      refine ct_iload_n C dX12_observe_69 3 rfl rfl ?_
      refine ct_iconst C dX12_observe_70 (1 : Int32) (by decide) ?_
      refine ct_iadd C dX12_observe_71 ?_
      refine ct_iald C dX12_observe_72 hk5 h.1 ?_
      have h := h.2
      refine ct_iast C dX12_observe_73 hk5 h.1 ?_
      have h := h.2
      refine ct_mem (fun m6 em6 => ?_)
      have h := h m6 em6
      obtain ⟨x7, ex7⟩ : ∃ z : Int32, z = v3 + (1 : Int32) := ⟨_, rfl⟩
      have h := h x7 ex7
      refine ct_iinc (k := 3) (v := x7) C dX12_observe_74 [(3, .int x7), (0, .ref (o + v0)), (1, .int v1), (2, .int v2)] rfl (by rw [ex7]; rfl) (by decide) rfl ?_
      refine ct_goto C dX12_observe_77 41 (by decide) ?_
      refine ct_sub [1, 2, 3, 0] [(0, .ref (o + v0)), (1, .int v1), (2, .int v2), (3, .int x7)] rfl ?_
      exact ih _ _ _ _ _ kv0 h
set_option maxHeartbeats 4000000 in
set_option maxRecDepth 100000 in
theorem c_X12_observe (l : Launch) (D : va_G) (cy : Nat → ClassId) (o : Nat) {a0 : Nat} {p1 : Int32} {p2 : Int32} {Q : Int32 → ct_M → Prop} {m : ct_M} (ka0 : ct_K 12 a0) (h : wp_X12_observe a0 p1 p2 Q m) : Met l yX12_observe (ct_ws yX12_observe cX12_observe 4 (some .int)) rm_X12_observe (va_Pc [.ref (o + a0), .int p1, .int p2] (ct_P D cy o ct_NN m)) (va_Qi Q (ct_P D cy o ct_NN) (fun q => o ≤ q)) 0 0 (fun q => o ≤ q) := by
  refine ct_met l D cy o ct_NN m (by decide) (Nat.le_of_ble_eq_true rfl) (fun p e s mth args below meth c C hr hlk => ?_)
  refine ct_sub [0, 1, 2] [(0, .ref (o + a0)), (1, .int p1), (2, .int p2)] rfl ?_
  unfold wp_X12_observe at h
  refine ct_aload_n C dX12_observe_0 0 rfl rfl ?_
  refine ct_iconst C dX12_observe_1 (0 : Int32) (by decide) ?_
  refine pf_X12_85 C dX12_observe_2 ka0 ?_
  refine ct_mem (fun m1 em1 => ?_)
  have h := h m1 em1
  refine ct_iload_n C dX12_observe_5 1 rfl rfl ?_
  refine ct_callSi (As := [.int p1]) C (c_X12_noCell l D cy o  h) kv_X12_192 rfl rfl (Nat.le_of_ble_eq_true rfl) ⟨rfl, rfl, Nat.le_of_ble_eq_true rfl, Nat.le_of_ble_eq_true rfl⟩ ⟨Nat.zero_le _, Nat.zero_le _⟩ dX12_observe_6 (fun r3 m2 h => ?_)
  refine ct_if_eq C dX12_observe_9 14 (by decide) (fun hc4 => ?_) (fun hc4 => ?_)
  · have h := h.1 hc4
    refine ct_iload_n C dX12_observe_14 2 rfl rfl ?_
    refine ct_i2l C dX12_observe_15 ?_
    refine ct_ldc2 C dX12_observe_16 mw_555 ?_
    refine ct_ldc2 C dX12_observe_19 mw_556 ?_
    refine ct_callSi (As := [.long p2.toInt64, .long (-99 : Int64), .long (99 : Int64)]) C (c_X12_in l D cy o  h) kv_X12_148 rfl rfl (Nat.le_of_ble_eq_true rfl) ⟨rfl, rfl, Nat.le_of_ble_eq_true rfl, Nat.le_of_ble_eq_true rfl⟩ ⟨Nat.zero_le _, Nat.zero_le _⟩ dX12_observe_22 (fun r6 m5 h => ?_)
    refine ct_if_ne C dX12_observe_25 31 (by decide) (fun hc7 => ?_) (fun hc7 => ?_)
    · have h := h.1 hc7
      refine ct_aload_n C dX12_observe_31 0 rfl rfl ?_
      refine gf_X12_253 C dX12_observe_32 ka0 ?_
      refine ct_iconst C dX12_observe_35 (4 : Int32) (by decide) ?_
      refine ct_icmp_ne C dX12_observe_36 90 (by decide) (fun hc8 => ?_) (fun hc8 => ?_)
      · have h := h.1 hc8
        refine ct_sub [0, 1, 2] [(0, .ref (o + a0)), (1, .int p1), (2, .int p2)] rfl ?_
        exact kb_X12_observe_90 C hr hlk  ka0 h
      · have h := h.2 hc8
        refine ct_iconst C dX12_observe_39 (0 : Int32) (by decide) ?_
        refine ct_istore_n C dX12_observe_40 [(3, .int (0 : Int32)), (0, .ref (o + a0)), (1, .int p1), (2, .int p2)] rfl (by decide) rfl ?_
        refine ct_sub [1, 2, 3, 0] [(0, .ref (o + a0)), (1, .int p1), (2, .int p2), (3, .int (0 : Int32))] rfl ?_
        obtain ⟨n9, h⟩ := h
        exact kb_X12_observe_41 C hr hlk  n9 _ _ _ _ _ ka0 h
    · have h := h.2 hc7
      refine ct_bipush C dX12_observe_28 (-2 : Int32) (by decide) ?_
      exact ct_ireti C hr hlk dX12_observe_30 h
  · have h := h.2 hc4
    refine ct_iconst C dX12_observe_12 (-1 : Int32) (by decide) ?_
    exact ct_ireti C hr hlk dX12_observe_13 h
abbrev rm_X12_doneThreads : Room := { frames := 1, cells := 0, slots := 0, locals := 20 }
set_option maxHeartbeats 4000000 in
set_option maxRecDepth 100000 in
theorem kb_X12_doneThreads_33 {p : Program} {l : Launch} {e : Env} {s : State} {mth : MethodId} {args : Array Value} {below : List Frame} {meth : Method} {c : Code} {D : va_G} {cy : Nat → ClassId} {o : Nat} {Q : Int32 → ct_M → Prop} {K4 : Nat → Int32 → Int32 → ct_M → Prop} {v0 : Nat} {v2 : Int32} {s0 : Int32} {s1 : Int32} {m : ct_M} (C : ct_Cx p s mth c cX12_doneThreads 3 args RX12 D cy) (hr : meth.sig.returnType = (some .int)) (hlk : meth.locks = false) (hK4 : ∀ (v0 : Nat) (v1 : Int32) (v2 : Int32) (m : ct_M), ct_K 12 v0 → K4 v0 v1 v2 m → ct_J p l e rm_X12_doneThreads s mth args below meth c 3 D cy o ct_NN 0 0 (MQ below (va_Qi Q (ct_P D cy o ct_NN) (fun q => o ≤ q)) args s 0 0 (fun q => o ≤ q)) m 4 [(0, .ref (o + v0)), (1, .int v1), (2, .int v2)] []) (kv0 : ct_K 12 v0) (h : wb_X12_doneThreads_33 K4 Q v0 v2 s0 s1 m) : ct_J p l e rm_X12_doneThreads s mth args below meth c 3 D cy o ct_NN 0 0 (MQ below (va_Qi Q (ct_P D cy o ct_NN) (fun q => o ≤ q)) args s 0 0 (fun q => o ≤ q)) m 33 [(0, .ref (o + v0)), (2, .int v2)] [.int s0, .int s1] := by
  unfold wb_X12_doneThreads_33 at h
  refine ct_iadd C dX12_doneThreads_33 ?_
  refine ct_topi (fun x1 ex1 => ?_)
  have h := h x1 ex1
  refine ct_istore_n C dX12_doneThreads_34 [(1, .int x1), (0, .ref (o + v0)), (2, .int v2)] rfl (by decide) rfl ?_
  obtain ⟨x2, ex2⟩ : ∃ z : Int32, z = v2 + (1 : Int32) := ⟨_, rfl⟩
  have h := h x2 ex2
  refine ct_iinc (k := 2) (v := x2) C dX12_doneThreads_35 [(2, .int x2), (1, .int x1), (0, .ref (o + v0))] rfl (by rw [ex2]; rfl) (by decide) rfl ?_
  refine ct_goto C dX12_doneThreads_38 4 (by decide) ?_
  refine ct_sub [2, 1, 0] [(0, .ref (o + v0)), (1, .int x1), (2, .int x2)] rfl ?_
  exact hK4 _ _ _ _ kv0 h
set_option maxHeartbeats 4000000 in
set_option maxRecDepth 100000 in
theorem kb_X12_doneThreads_4 {p : Program} {l : Launch} {e : Env} {s : State} {mth : MethodId} {args : Array Value} {below : List Frame} {meth : Method} {c : Code} {D : va_G} {cy : Nat → ClassId} {o : Nat} {Q : Int32 → ct_M → Prop} (C : ct_Cx p s mth c cX12_doneThreads 3 args RX12 D cy) (hr : meth.sig.returnType = (some .int)) (hlk : meth.locks = false) : ∀ (n : Nat) (v0 : Nat) (v1 : Int32) (v2 : Int32) (m : ct_M) (kv0 : ct_K 12 v0), wb_X12_doneThreads_4 Q n v0 v1 v2 m → ct_J p l e rm_X12_doneThreads s mth args below meth c 3 D cy o ct_NN 0 0 (MQ below (va_Qi Q (ct_P D cy o ct_NN) (fun q => o ≤ q)) args s 0 0 (fun q => o ≤ q)) m 4 [(0, .ref (o + v0)), (1, .int v1), (2, .int v2)] [] := by
  intro n
  induction n with
  | zero => intro v0 v1 v2 m kv0 h; exact h.elim
  | succ n ih =>
    intro v0 v1 v2 m kv0 h
    unfold wb_X12_doneThreads_4 at h
    refine ct_iload_n C dX12_doneThreads_4 2 rfl rfl ?_
    refine ct_aload_n C dX12_doneThreads_5 0 rfl rfl ?_
    refine gf_X12_13 C dX12_doneThreads_6 kv0 ?_
    refine ct_icmp_ge C dX12_doneThreads_9 41 (by decide) (fun hc1 => ?_) (fun hc1 => ?_)
    · have h := h.1 hc1
      refine ct_iload_n C dX12_doneThreads_41 1 rfl rfl ?_
      exact ct_ireti C hr hlk dX12_doneThreads_42 h
    · have h := h.2 hc1
      refine ct_iload_n C dX12_doneThreads_12 1 rfl rfl ?_
      refine ct_aload_n C dX12_doneThreads_13 0 rfl rfl ?_
      refine gf_X12_32 C dX12_doneThreads_14 kv0 ?_
      have hk2 := ct_t12_10 kv0
      refine ct_iload_n C dX12_doneThreads_17 2 rfl rfl ?_
      refine ct_callSi (As := [.int v2]) C (c_X12_at l D cy o  h) kv_X12_88 rfl rfl (Nat.le_of_ble_eq_true rfl) ⟨rfl, rfl, Nat.le_of_ble_eq_true rfl, Nat.le_of_ble_eq_true rfl⟩ ⟨Nat.zero_le _, Nat.zero_le _⟩ dX12_doneThreads_18 (fun r4 m3 h => ?_)
      refine ct_iconst C dX12_doneThreads_21 (0 : Int32) (by decide) ?_
      refine ct_iadd C dX12_doneThreads_22 ?_
      refine ct_iald C dX12_doneThreads_23 hk2 h.1 ?_
      have h := h.2
      refine ct_iconst C dX12_doneThreads_24 (2 : Int32) (by decide) ?_
      refine ct_icmp_ne C dX12_doneThreads_25 32 (by decide) (fun hc5 => ?_) (fun hc5 => ?_)
      · have h := h.1 hc5
        refine ct_iconst C dX12_doneThreads_32 (0 : Int32) (by decide) ?_
        refine ct_sub [0, 2] [(0, .ref (o + v0)), (2, .int v2)] rfl ?_
        exact kb_X12_doneThreads_33 C hr hlk ih kv0 h
      · have h := h.2 hc5
        refine ct_iconst C dX12_doneThreads_28 (1 : Int32) (by decide) ?_
        refine ct_goto C dX12_doneThreads_29 33 (by decide) ?_
        refine ct_sub [0, 2] [(0, .ref (o + v0)), (2, .int v2)] rfl ?_
        exact kb_X12_doneThreads_33 C hr hlk ih kv0 h
set_option maxHeartbeats 4000000 in
set_option maxRecDepth 100000 in
theorem c_X12_doneThreads (l : Launch) (D : va_G) (cy : Nat → ClassId) (o : Nat) {a0 : Nat} {Q : Int32 → ct_M → Prop} {m : ct_M} (ka0 : ct_K 12 a0) (h : wp_X12_doneThreads a0 Q m) : Met l yX12_doneThreads (ct_ws yX12_doneThreads cX12_doneThreads 3 (some .int)) rm_X12_doneThreads (va_Pc [.ref (o + a0)] (ct_P D cy o ct_NN m)) (va_Qi Q (ct_P D cy o ct_NN) (fun q => o ≤ q)) 0 0 (fun q => o ≤ q) := by
  refine ct_met l D cy o ct_NN m (by decide) (Nat.le_of_ble_eq_true rfl) (fun p e s mth args below meth c C hr hlk => ?_)
  refine ct_sub [0] [(0, .ref (o + a0))] rfl ?_
  unfold wp_X12_doneThreads at h
  refine ct_iconst C dX12_doneThreads_0 (0 : Int32) (by decide) ?_
  refine ct_istore_n C dX12_doneThreads_1 [(1, .int (0 : Int32)), (0, .ref (o + a0))] rfl (by decide) rfl ?_
  refine ct_iconst C dX12_doneThreads_2 (0 : Int32) (by decide) ?_
  refine ct_istore_n C dX12_doneThreads_3 [(2, .int (0 : Int32)), (1, .int (0 : Int32)), (0, .ref (o + a0))] rfl (by decide) rfl ?_
  refine ct_sub [2, 1, 0] [(0, .ref (o + a0)), (1, .int (0 : Int32)), (2, .int (0 : Int32))] rfl ?_
  obtain ⟨n1, h⟩ := h
  exact kb_X12_doneThreads_4 C hr hlk  n1 _ _ _ _ ka0 h
abbrev rm_X12_save : Room := { frames := 2, cells := 0, slots := 0, locals := 42 }
set_option maxHeartbeats 4000000 in
set_option maxRecDepth 100000 in
theorem kb_X12_save_26 {p : Program} {l : Launch} {e : Env} {s : State} {mth : MethodId} {args : Array Value} {below : List Frame} {meth : Method} {c : Code} {D : va_G} {cy : Nat → ClassId} {o : Nat} {Q : Int32 → ct_M → Prop} (C : ct_Cx p s mth c cX12_save 3 args RX12 D cy) (hr : meth.sig.returnType = (some .int)) (hlk : meth.locks = false) : ∀ (n : Nat) (v0 : Nat) (v1 : Int32) (v2 : Int32) (m : ct_M) (kv0 : ct_K 12 v0), wb_X12_save_26 Q n v0 v1 v2 m → ct_J p l e rm_X12_save s mth args below meth c 3 D cy o ct_NN 0 0 (MQ below (va_Qi Q (ct_P D cy o ct_NN) (fun q => o ≤ q)) args s 0 0 (fun q => o ≤ q)) m 26 [(0, .ref (o + v0)), (1, .int v1), (2, .int v2)] [] := by
  intro n
  induction n with
  | zero => intro v0 v1 v2 m kv0 h; exact h.elim
  | succ n ih =>
    intro v0 v1 v2 m kv0 h
    unfold wb_X12_save_26 at h
    refine ct_iload_n C dX12_save_26 2 rfl rfl ?_
    refine ct_sipush C dX12_save_27 (172 : Int32) (by decide) ?_
    refine ct_icmp_ge C dX12_save_30 57 (by decide) (fun hc1 => ?_) (fun hc1 => ?_)
    · have h := h.1 hc1
      refine ct_aload_n C dX12_save_57 0 rfl rfl ?_
      refine ct_callVi (As := []) (T := TX12) C (c_X12_doneThreads l D cy o kv0 h) kv_X12_270 kv0.1 (ct_E12 kv0) rfl rfl rfl (Nat.le_of_ble_eq_true rfl) ⟨rfl, rfl, Nat.le_of_ble_eq_true rfl, Nat.le_of_ble_eq_true rfl⟩ ⟨Nat.zero_le _, Nat.zero_le _⟩ dX12_save_58 (fun r3 m2 h => ?_)
      exact ct_ireti C hr hlk dX12_save_61 h
    · have h := h.2 hc1
      refine ct_aload_n C dX12_save_33 0 rfl rfl ?_
      refine gf_X12_41 C dX12_save_34 kv0 ?_
      have hk4 := ct_t12_14 kv0
      refine ct_sipush C dX12_save_37 (172 : Int32) (by decide) ?_
      refine ct_iload_n C dX12_save_40 1 rfl rfl ?_
      refine ct_imul C dX12_save_41 ?_
      refine ct_iload_n C dX12_save_42 2 rfl rfl ?_
      refine ct_iadd C dX12_save_43 ?_
      refine ct_aload_n C dX12_save_44 0 rfl rfl ?_
      refine gf_X12_32 C dX12_save_45 kv0 ?_
      have hk5 := ct_t12_10 kv0
      refine ct_iload_n C dX12_save_48 2 rfl rfl ?_
      refine ct_iald C dX12_save_49 hk5 h.1 ?_
      have h := h.2
      refine ct_iast C dX12_save_50 hk4 h.1 ?_
      have h := h.2
      refine ct_mem (fun m6 em6 => ?_)
      have h := h m6 em6
      obtain ⟨x7, ex7⟩ : ∃ z : Int32, z = v2 + (1 : Int32) := ⟨_, rfl⟩
      have h := h x7 ex7
      refine ct_iinc (k := 2) (v := x7) C dX12_save_51 [(2, .int x7), (0, .ref (o + v0)), (1, .int v1)] rfl (by rw [ex7]; rfl) (by decide) rfl ?_
      refine ct_goto C dX12_save_54 26 (by decide) ?_
      refine ct_sub [1, 2, 0] [(0, .ref (o + v0)), (1, .int v1), (2, .int x7)] rfl ?_
      exact ih _ _ _ _ kv0 h
set_option maxHeartbeats 4000000 in
set_option maxRecDepth 100000 in
theorem c_X12_save (l : Launch) (D : va_G) (cy : Nat → ClassId) (o : Nat) {a0 : Nat} {p1 : Int32} {Q : Int32 → ct_M → Prop} {m : ct_M} (ka0 : ct_K 12 a0) (h : wp_X12_save a0 p1 Q m) : Met l yX12_save (ct_ws yX12_save cX12_save 3 (some .int)) rm_X12_save (va_Pc [.ref (o + a0), .int p1] (ct_P D cy o ct_NN m)) (va_Qi Q (ct_P D cy o ct_NN) (fun q => o ≤ q)) 0 0 (fun q => o ≤ q) := by
  refine ct_met l D cy o ct_NN m (by decide) (Nat.le_of_ble_eq_true rfl) (fun p e s mth args below meth c C hr hlk => ?_)
  refine ct_sub [0, 1] [(0, .ref (o + a0)), (1, .int p1)] rfl ?_
  unfold wp_X12_save at h
  refine ct_aload_n C dX12_save_0 0 rfl rfl ?_
  refine ct_iconst C dX12_save_1 (0 : Int32) (by decide) ?_
  refine pf_X12_85 C dX12_save_2 ka0 ?_
  refine ct_mem (fun m1 em1 => ?_)
  have h := h m1 em1
  refine ct_iload_n C dX12_save_5 1 rfl rfl ?_
  refine ct_i2l C dX12_save_6 ?_
  refine ct_lconst C dX12_save_7 (0 : Int64) (by decide) ?_
  refine ct_lconst C dX12_save_8 (1 : Int64) (by decide) ?_
  refine ct_callSi (As := [.long p1.toInt64, .long (0 : Int64), .long (1 : Int64)]) C (c_X12_in l D cy o  h) kv_X12_148 rfl rfl (Nat.le_of_ble_eq_true rfl) ⟨rfl, rfl, Nat.le_of_ble_eq_true rfl, Nat.le_of_ble_eq_true rfl⟩ ⟨Nat.zero_le _, Nat.zero_le _⟩ dX12_save_9 (fun r3 m2 h => ?_)
  refine ct_if_ne C dX12_save_12 17 (by decide) (fun hc4 => ?_) (fun hc4 => ?_)
  · have h := h.1 hc4
    refine ct_aload_n C dX12_save_17 0 rfl rfl ?_
    refine gf_X12_44 C dX12_save_18 ka0 ?_
    have hk5 := ct_t12_15 ka0
    refine ct_iload_n C dX12_save_21 1 rfl rfl ?_
    refine ct_iconst C dX12_save_22 (1 : Int32) (by decide) ?_
    refine ct_zast C dX12_save_23 hk5 h.1 ?_
    have h := h.2
    refine ct_mem (fun m6 em6 => ?_)
    have h := h m6 em6
    refine ct_iconst C dX12_save_24 (0 : Int32) (by decide) ?_
    refine ct_istore_n C dX12_save_25 [(2, .int (0 : Int32)), (0, .ref (o + a0)), (1, .int p1)] rfl (by decide) rfl ?_
    refine ct_sub [1, 2, 0] [(0, .ref (o + a0)), (1, .int p1), (2, .int (0 : Int32))] rfl ?_
    obtain ⟨n7, h⟩ := h
    exact kb_X12_save_26 C hr hlk  n7 _ _ _ _ ka0 h
  · have h := h.2 hc4
    refine ct_iconst C dX12_save_15 (-1 : Int32) (by decide) ?_
    exact ct_ireti C hr hlk dX12_save_16 h
abbrev rm_X12_restore : Room := { frames := 2, cells := 0, slots := 0, locals := 42 }
set_option maxHeartbeats 4000000 in
set_option maxRecDepth 100000 in
theorem kb_X12_restore_31 {p : Program} {l : Launch} {e : Env} {s : State} {mth : MethodId} {args : Array Value} {below : List Frame} {meth : Method} {c : Code} {D : va_G} {cy : Nat → ClassId} {o : Nat} {Q : Int32 → ct_M → Prop} (C : ct_Cx p s mth c cX12_restore 3 args RX12 D cy) (hr : meth.sig.returnType = (some .int)) (hlk : meth.locks = false) : ∀ (n : Nat) (v0 : Nat) (v1 : Int32) (v2 : Int32) (m : ct_M) (kv0 : ct_K 12 v0), wb_X12_restore_31 Q n v0 v1 v2 m → ct_J p l e rm_X12_restore s mth args below meth c 3 D cy o ct_NN 0 0 (MQ below (va_Qi Q (ct_P D cy o ct_NN) (fun q => o ≤ q)) args s 0 0 (fun q => o ≤ q)) m 31 [(0, .ref (o + v0)), (1, .int v1), (2, .int v2)] [] := by
  intro n
  induction n with
  | zero => intro v0 v1 v2 m kv0 h; exact h.elim
  | succ n ih =>
    intro v0 v1 v2 m kv0 h
    unfold wb_X12_restore_31 at h
    refine ct_iload_n C dX12_restore_31 2 rfl rfl ?_
    refine ct_sipush C dX12_restore_32 (172 : Int32) (by decide) ?_
    refine ct_icmp_ge C dX12_restore_35 62 (by decide) (fun hc1 => ?_) (fun hc1 => ?_)
    · have h := h.1 hc1
      refine ct_aload_n C dX12_restore_62 0 rfl rfl ?_
      refine ct_iconst C dX12_restore_63 (0 : Int32) (by decide) ?_
      refine pf_X12_187 C dX12_restore_64 kv0 ?_
      refine ct_mem (fun m2 em2 => ?_)
      have h := h m2 em2
      refine ct_aload_n C dX12_restore_67 0 rfl rfl ?_
      refine ct_callVi (As := []) (T := TX12) C (c_X12_doneThreads l D cy o kv0 h) kv_X12_270 kv0.1 (ct_E12 kv0) rfl rfl rfl (Nat.le_of_ble_eq_true rfl) ⟨rfl, rfl, Nat.le_of_ble_eq_true rfl, Nat.le_of_ble_eq_true rfl⟩ ⟨Nat.zero_le _, Nat.zero_le _⟩ dX12_restore_68 (fun r4 m3 h => ?_)
      exact ct_ireti C hr hlk dX12_restore_71 h
    · have h := h.2 hc1
      refine ct_aload_n C dX12_restore_38 0 rfl rfl ?_
      refine gf_X12_32 C dX12_restore_39 kv0 ?_
      have hk5 := ct_t12_10 kv0
      refine ct_iload_n C dX12_restore_42 2 rfl rfl ?_
      refine ct_aload_n C dX12_restore_43 0 rfl rfl ?_
      refine gf_X12_41 C dX12_restore_44 kv0 ?_
      have hk6 := ct_t12_14 kv0
      refine ct_sipush C dX12_restore_47 (172 : Int32) (by decide) ?_
      refine ct_iload_n C dX12_restore_50 1 rfl rfl ?_
      refine ct_imul C dX12_restore_51 ?_
      refine ct_iload_n C dX12_restore_52 2 rfl rfl ?_
      refine ct_iadd C dX12_restore_53 ?_
      refine ct_iald C dX12_restore_54 hk6 h.1 ?_
      have h := h.2
      refine ct_iast C dX12_restore_55 hk5 h.1 ?_
      have h := h.2
      refine ct_mem (fun m7 em7 => ?_)
      have h := h m7 em7
      obtain ⟨x8, ex8⟩ : ∃ z : Int32, z = v2 + (1 : Int32) := ⟨_, rfl⟩
      have h := h x8 ex8
      refine ct_iinc (k := 2) (v := x8) C dX12_restore_56 [(2, .int x8), (0, .ref (o + v0)), (1, .int v1)] rfl (by rw [ex8]; rfl) (by decide) rfl ?_
      refine ct_goto C dX12_restore_59 31 (by decide) ?_
      refine ct_sub [1, 2, 0] [(0, .ref (o + v0)), (1, .int v1), (2, .int x8)] rfl ?_
      exact ih _ _ _ _ kv0 h
set_option maxHeartbeats 4000000 in
set_option maxRecDepth 100000 in
theorem c_X12_restore (l : Launch) (D : va_G) (cy : Nat → ClassId) (o : Nat) {a0 : Nat} {p1 : Int32} {Q : Int32 → ct_M → Prop} {m : ct_M} (ka0 : ct_K 12 a0) (h : wp_X12_restore a0 p1 Q m) : Met l yX12_restore (ct_ws yX12_restore cX12_restore 3 (some .int)) rm_X12_restore (va_Pc [.ref (o + a0), .int p1] (ct_P D cy o ct_NN m)) (va_Qi Q (ct_P D cy o ct_NN) (fun q => o ≤ q)) 0 0 (fun q => o ≤ q) := by
  refine ct_met l D cy o ct_NN m (by decide) (Nat.le_of_ble_eq_true rfl) (fun p e s mth args below meth c C hr hlk => ?_)
  refine ct_sub [0, 1] [(0, .ref (o + a0)), (1, .int p1)] rfl ?_
  unfold wp_X12_restore at h
  refine ct_aload_n C dX12_restore_0 0 rfl rfl ?_
  refine ct_iconst C dX12_restore_1 (0 : Int32) (by decide) ?_
  refine pf_X12_85 C dX12_restore_2 ka0 ?_
  refine ct_mem (fun m1 em1 => ?_)
  have h := h m1 em1
  refine ct_iload_n C dX12_restore_5 1 rfl rfl ?_
  refine ct_i2l C dX12_restore_6 ?_
  refine ct_lconst C dX12_restore_7 (0 : Int64) (by decide) ?_
  refine ct_lconst C dX12_restore_8 (1 : Int64) (by decide) ?_
  refine ct_callSi (As := [.long p1.toInt64, .long (0 : Int64), .long (1 : Int64)]) C (c_X12_in l D cy o  h) kv_X12_148 rfl rfl (Nat.le_of_ble_eq_true rfl) ⟨rfl, rfl, Nat.le_of_ble_eq_true rfl, Nat.le_of_ble_eq_true rfl⟩ ⟨Nat.zero_le _, Nat.zero_le _⟩ dX12_restore_9 (fun r3 m2 h => ?_)
  refine ct_if_ne C dX12_restore_12 17 (by decide) (fun hc4 => ?_) (fun hc4 => ?_)
  · have h := h.1 hc4
    refine ct_aload_n C dX12_restore_17 0 rfl rfl ?_
    refine gf_X12_44 C dX12_restore_18 ka0 ?_
    have hk5 := ct_t12_15 ka0
    refine ct_iload_n C dX12_restore_21 1 rfl rfl ?_
    refine ct_zald C dX12_restore_22 hk5 h.1 ?_
    have h := h.2
    refine ct_if_ne C dX12_restore_23 29 (by decide) (fun hc6 => ?_) (fun hc6 => ?_)
    · have h := h.1 hc6
      refine ct_iconst C dX12_restore_29 (0 : Int32) (by decide) ?_
      refine ct_istore_n C dX12_restore_30 [(2, .int (0 : Int32)), (0, .ref (o + a0)), (1, .int p1)] rfl (by decide) rfl ?_
      refine ct_sub [1, 2, 0] [(0, .ref (o + a0)), (1, .int p1), (2, .int (0 : Int32))] rfl ?_
      obtain ⟨n7, h⟩ := h
      exact kb_X12_restore_31 C hr hlk  n7 _ _ _ _ ka0 h
    · have h := h.2 hc6
      refine ct_bipush C dX12_restore_26 (-3 : Int32) (by decide) ?_
      exact ct_ireti C hr hlk dX12_restore_28 h
  · have h := h.2 hc4
    refine ct_iconst C dX12_restore_15 (-1 : Int32) (by decide) ?_
    exact ct_ireti C hr hlk dX12_restore_16 h
