abbrev rm_X12_abandon : Room := { frames := 3, cells := 0, slots := 0, locals := 64 }
set_option maxHeartbeats 4000000 in
set_option maxRecDepth 100000 in
theorem kb_X12_abandon_12 {p : Program} {l : Launch} {e : Env} {s : State} {mth : MethodId} {args : Array Value} {below : List Frame} {meth : Method} {c : Code} {D : va_G} {cy : Nat → ClassId} {o : Nat} {Q : Int32 → ct_M → Prop} (C : ct_Cx p s mth c cX12_abandon 5 args RX12 D cy) (hr : meth.sig.returnType = (some .int)) (hlk : meth.locks = false) : ∀ (n : Nat) (v0 : Nat) (v1 : Nat) (v2 : Int32) (v3 : Int32) (m : ct_M) (kv0 : ct_K 12 v0) (kv1 : ct_K 14 v1), wb_X12_abandon_12 Q n v0 v1 v2 v3 m → ct_J p l e rm_X12_abandon s mth args below meth c 5 D cy o ct_NN 0 0 (MQ below (va_Qi Q (ct_P D cy o ct_NN) (fun q => o ≤ q)) args s 0 0 (fun q => o ≤ q)) m 12 [(0, .ref (o + v0)), (1, .ref (o + v1)), (2, .int v2), (3, .int v3)] [] := by
  intro n
  induction n with
  | zero => intro v0 v1 v2 v3 m kv0 kv1 h; exact h.elim
  | succ n ih =>
    intro v0 v1 v2 v3 m kv0 kv1 h
    unfold wb_X12_abandon_12 at h
    refine ct_iload_n C dX12_abandon_12 3 rfl rfl ?_
    refine ct_if_lt C dX12_abandon_13 98 (by decide) (fun hc1 => ?_) (fun hc1 => ?_)
    · have h := h.1 hc1
      refine ct_aload_n C dX12_abandon_98 1 rfl rfl ?_
      refine ct_iload_n C dX12_abandon_99 2 rfl rfl ?_
      refine ct_iconst C dX12_abandon_100 (3 : Int32) (by decide) ?_
      refine ct_callSv (As := [.ref (o + v1), .int v2, .int (3 : Int32)]) C (c_X12_stop l D cy o kv1 h) kv_X12_96 rfl rfl (Nat.le_of_ble_eq_true rfl) ⟨rfl, rfl, Nat.le_of_ble_eq_true rfl, Nat.le_of_ble_eq_true rfl⟩ ⟨Nat.zero_le _, Nat.zero_le _⟩ dX12_abandon_101 (fun m2 h => ?_)
      refine ct_iconst C dX12_abandon_104 (4 : Int32) (by decide) ?_
      exact ct_ireti C hr hlk dX12_abandon_105 h
    · have h := h.2 hc1
      refine ct_iload_n C dX12_abandon_16 2 rfl rfl ?_
      refine ct_callSi (As := [.int v2]) C (c_X12_at l D cy o  h) kv_X12_88 rfl rfl (Nat.le_of_ble_eq_true rfl) ⟨rfl, rfl, Nat.le_of_ble_eq_true rfl, Nat.le_of_ble_eq_true rfl⟩ ⟨Nat.zero_le _, Nat.zero_le _⟩ dX12_abandon_17 (fun r4 m3 h => ?_)
      refine ct_bipush C dX12_abandon_20 (17 : Int32) (by decide) ?_
      refine ct_iadd C dX12_abandon_22 ?_
      refine ct_bipush C dX12_abandon_23 (10 : Int32) (by decide) ?_
      refine ct_iload_n C dX12_abandon_25 3 rfl rfl ?_
      refine ct_imul C dX12_abandon_26 ?_
      refine ct_iadd C dX12_abandon_27 ?_
      refine ct_topi (fun x5 ex5 => ?_)
      have h := h x5 ex5
      refine ct_istore C dX12_abandon_28 [(4, .int x5), (0, .ref (o + v0)), (1, .ref (o + v1)), (2, .int v2), (3, .int v3)] (by decide) rfl ?_
      refine ct_aload_n C dX12_abandon_30 1 rfl rfl ?_
      refine gf_X12_20 C dX12_abandon_31 kv0 ?_
      have hk6 := ct_t12_6 kv0
      refine ct_bipush C dX12_abandon_34 (60 : Int32) (by decide) ?_
      refine ct_iload_n C dX12_abandon_36 3 rfl rfl ?_
      refine ct_imul C dX12_abandon_37 ?_
      refine ct_aload_n C dX12_abandon_38 2 rfl rfl ?_
      refine ct_iload C dX12_abandon_39 0 rfl ?_
      refine ct_iald C dX12_abandon_41 kv1 h.1 ?_
      have h := h.2
      refine ct_iadd C dX12_abandon_42 ?_
      refine ct_iald C dX12_abandon_43 hk6 h.1 ?_
      have h := h.2
      refine ct_bipush C dX12_abandon_44 (123 : Int32) (by decide) ?_
      refine ct_icmp_ne C dX12_abandon_46 92 (by decide) (fun hc7 => ?_) (fun hc7 => ?_)
      · have h := h.1 hc7
        obtain ⟨x8, ex8⟩ : ∃ z : Int32, z = v3 + (-1 : Int32) := ⟨_, rfl⟩
        have h := h x8 ex8
        refine ct_iinc (k := 4) (v := x8) C dX12_abandon_92 [(3, .int x8), (4, .int x5), (0, .ref (o + v0)), (1, .ref (o + v1)), (2, .int v2)] rfl (by rw [ex8]; rfl) (by decide) rfl ?_
        refine ct_goto C dX12_abandon_95 12 (by decide) ?_
        refine ct_sub [2, 3, 4, 0] [(0, .ref (o + v0)), (1, .ref (o + v1)), (2, .int v2), (3, .int x8)] rfl ?_
        exact ih _ _ _ _ _ kv0 kv1 h
      · have h := h.2 hc7
        refine ct_aload_n C dX12_abandon_49 2 rfl rfl ?_
        refine ct_iload_n C dX12_abandon_50 3 rfl rfl ?_
        refine ct_iload C dX12_abandon_51 0 rfl ?_
        refine ct_callSv (As := [.ref (o + v1), .int v2, .int x5]) C (c_X12_bringBack l D cy o kv1 h) kv_X12_122 rfl rfl (Nat.le_of_ble_eq_true rfl) ⟨rfl, rfl, Nat.le_of_ble_eq_true rfl, Nat.le_of_ble_eq_true rfl⟩ ⟨Nat.zero_le _, Nat.zero_le _⟩ dX12_abandon_53 (fun m9 h => ?_)
        refine ct_aload_n C dX12_abandon_56 2 rfl rfl ?_
        refine ct_iload_n C dX12_abandon_57 3 rfl rfl ?_
        refine ct_callSi (As := [.int v2]) C (c_X12_at l D cy o  h) kv_X12_88 rfl rfl (Nat.le_of_ble_eq_true rfl) ⟨rfl, rfl, Nat.le_of_ble_eq_true rfl, Nat.le_of_ble_eq_true rfl⟩ ⟨Nat.zero_le _, Nat.zero_le _⟩ dX12_abandon_58 (fun r11 m10 h => ?_)
        refine ct_bipush C dX12_abandon_61 (16 : Int32) (by decide) ?_
        refine ct_iadd C dX12_abandon_63 ?_
        refine ct_iload_n C dX12_abandon_64 4 rfl rfl ?_
        refine ct_iast C dX12_abandon_65 kv1 h.1 ?_
        have h := h.2
        refine ct_mem (fun m12 em12 => ?_)
        have h := h m12 em12
        refine ct_aload_n C dX12_abandon_66 2 rfl rfl ?_
        refine ct_iload_n C dX12_abandon_67 3 rfl rfl ?_
        refine ct_callSi (As := [.int v2]) C (c_X12_at l D cy o  h) kv_X12_88 rfl rfl (Nat.le_of_ble_eq_true rfl) ⟨rfl, rfl, Nat.le_of_ble_eq_true rfl, Nat.le_of_ble_eq_true rfl⟩ ⟨Nat.zero_le _, Nat.zero_le _⟩ dX12_abandon_68 (fun r14 m13 h => ?_)
        refine ct_iconst C dX12_abandon_71 (1 : Int32) (by decide) ?_
        refine ct_iadd C dX12_abandon_72 ?_
        refine ct_aload_n C dX12_abandon_73 1 rfl rfl ?_
        refine gf_X12_29 C dX12_abandon_74 kv0 ?_
        have hk15 := ct_t12_9 kv0
        refine ct_bipush C dX12_abandon_77 (60 : Int32) (by decide) ?_
        refine ct_iload_n C dX12_abandon_79 3 rfl rfl ?_
        refine ct_imul C dX12_abandon_80 ?_
        refine ct_aload_n C dX12_abandon_81 2 rfl rfl ?_
        refine ct_iload C dX12_abandon_82 0 rfl ?_
        refine ct_iald C dX12_abandon_84 kv1 h.1 ?_
        have h := h.2
        refine ct_iadd C dX12_abandon_85 ?_
        refine ct_iald C dX12_abandon_86 hk15 h.1 ?_
        have h := h.2
        refine ct_iconst C dX12_abandon_87 (1 : Int32) (by decide) ?_
        refine ct_iadd C dX12_abandon_88 ?_
        refine ct_iast C dX12_abandon_89 kv1 h.1 ?_
        have h := h.2
        refine ct_mem (fun m16 em16 => ?_)
        have h := h m16 em16
        refine ct_iconst C dX12_abandon_90 (0 : Int32) (by decide) ?_
        exact ct_ireti C hr hlk dX12_abandon_91 h
set_option maxHeartbeats 4000000 in
set_option maxRecDepth 100000 in
theorem c_X12_abandon (l : Launch) (D : va_G) (cy : Nat → ClassId) (o : Nat) {a0 : Nat} {a1 : Nat} {p2 : Int32} {Q : Int32 → ct_M → Prop} {m : ct_M} (ka0 : ct_K 12 a0) (ka1 : ct_K 14 a1) (h : wp_X12_abandon a0 a1 p2 Q m) : Met l yX12_abandon (ct_ws yX12_abandon cX12_abandon 5 (some .int)) rm_X12_abandon (va_Pc [.ref (o + a0), .ref (o + a1), .int p2] (ct_P D cy o ct_NN m)) (va_Qi Q (ct_P D cy o ct_NN) (fun q => o ≤ q)) 0 0 (fun q => o ≤ q) := by
  refine ct_met l D cy o ct_NN m (by decide) (Nat.le_of_ble_eq_true rfl) (fun p e s mth args below meth c C hr hlk => ?_)
  refine ct_sub [0, 1, 2] [(0, .ref (o + a0)), (1, .ref (o + a1)), (2, .int p2)] rfl ?_
  unfold wp_X12_abandon at h
  refine ct_aload_n C dX12_abandon_0 1 rfl rfl ?_
  refine ct_iload_n C dX12_abandon_1 2 rfl rfl ?_
  refine ct_callSi (As := [.int p2]) C (c_X12_at l D cy o  h) kv_X12_88 rfl rfl (Nat.le_of_ble_eq_true rfl) ⟨rfl, rfl, Nat.le_of_ble_eq_true rfl, Nat.le_of_ble_eq_true rfl⟩ ⟨Nat.zero_le _, Nat.zero_le _⟩ dX12_abandon_2 (fun r2 m1 h => ?_)
  refine ct_bipush C dX12_abandon_5 (16 : Int32) (by decide) ?_
  refine ct_iadd C dX12_abandon_7 ?_
  refine ct_iald C dX12_abandon_8 ka1 h.1 ?_
  have h := h.2
  refine ct_iconst C dX12_abandon_9 (1 : Int32) (by decide) ?_
  refine ct_isub C dX12_abandon_10 ?_
  refine ct_topi (fun x3 ex3 => ?_)
  have h := h x3 ex3
  refine ct_istore_n C dX12_abandon_11 [(3, .int x3), (0, .ref (o + a0)), (1, .ref (o + a1)), (2, .int p2)] rfl (by decide) rfl ?_
  refine ct_sub [1, 2, 3, 0] [(0, .ref (o + a0)), (1, .ref (o + a1)), (2, .int p2), (3, .int x3)] rfl ?_
  obtain ⟨n4, h⟩ := h
  exact kb_X12_abandon_12 C hr hlk  n4 _ _ _ _ _ ka0 ka1 h
abbrev rm_X12_readCell : Room := { frames := 2, cells := 0, slots := 0, locals := 43 }
set_option maxHeartbeats 4000000 in
set_option maxRecDepth 100000 in
theorem c_X12_readCell (l : Launch) (D : va_G) (cy : Nat → ClassId) (o : Nat) {a0 : Nat} {p1 : Int32} {p2 : Int32} {Q : ct_M → Prop} {m : ct_M} (ka0 : ct_K 14 a0) (h : wp_X12_readCell a0 p1 p2 Q m) : Met l yX12_readCell (ct_ws yX12_readCell cX12_readCell 3 none) rm_X12_readCell (va_Pc [.ref (o + a0), .int p1, .int p2] (ct_P D cy o ct_NN m)) (va_Qv Q (ct_P D cy o ct_NN) (fun q => o ≤ q)) 0 0 (fun q => o ≤ q) := by
  refine ct_met l D cy o ct_NN m (by decide) (Nat.le_of_ble_eq_true rfl) (fun p e s mth args below meth c C hr hlk => ?_)
  refine ct_sub [0, 1, 2] [(0, .ref (o + a0)), (1, .int p1), (2, .int p2)] rfl ?_
  unfold wp_X12_readCell at h
  refine ct_aload_n C dX12_readCell_0 0 rfl rfl ?_
  refine ct_iload_n C dX12_readCell_1 1 rfl rfl ?_
  refine ct_callSi (As := [.int p1]) C (c_X12_at l D cy o  h) kv_X12_88 rfl rfl (Nat.le_of_ble_eq_true rfl) ⟨rfl, rfl, Nat.le_of_ble_eq_true rfl, Nat.le_of_ble_eq_true rfl⟩ ⟨Nat.zero_le _, Nat.zero_le _⟩ dX12_readCell_2 (fun r2 m1 h => ?_)
  refine ct_iconst C dX12_readCell_5 (2 : Int32) (by decide) ?_
  refine ct_iadd C dX12_readCell_6 ?_
  refine ct_aload_n C dX12_readCell_7 0 rfl rfl ?_
  refine ct_iload_n C dX12_readCell_8 1 rfl rfl ?_
  refine ct_iload_n C dX12_readCell_9 2 rfl rfl ?_
  refine ct_callSi (As := [.ref (o + a0), .int p1, .int p2]) C (c_X12_sees l D cy o ka0 h) kv_X12_112 rfl rfl (Nat.le_of_ble_eq_true rfl) ⟨rfl, rfl, Nat.le_of_ble_eq_true rfl, Nat.le_of_ble_eq_true rfl⟩ ⟨Nat.zero_le _, Nat.zero_le _⟩ dX12_readCell_10 (fun r4 m3 h => ?_)
  refine ct_iast C dX12_readCell_13 ka0 h.1 ?_
  have h := h.2
  refine ct_mem (fun m5 em5 => ?_)
  have h := h m5 em5
  refine ct_aload_n C dX12_readCell_14 0 rfl rfl ?_
  refine ct_iload_n C dX12_readCell_15 1 rfl rfl ?_
  refine ct_callSi (As := [.int p1]) C (c_X12_at l D cy o  h) kv_X12_88 rfl rfl (Nat.le_of_ble_eq_true rfl) ⟨rfl, rfl, Nat.le_of_ble_eq_true rfl, Nat.le_of_ble_eq_true rfl⟩ ⟨Nat.zero_le _, Nat.zero_le _⟩ dX12_readCell_16 (fun r7 m6 h => ?_)
  refine ct_bipush C dX12_readCell_19 (9 : Int32) (by decide) ?_
  refine ct_iadd C dX12_readCell_21 ?_
  refine ct_iald C dX12_readCell_22 ka0 h.1 ?_
  have h := h.2
  refine ct_iload_n C dX12_readCell_23 2 rfl rfl ?_
  refine ct_callSi (As := [.int (m6.1 a0 (r7 + (9 : Int32)).toNatClampNeg), .int p2]) C (c_X12_has l D cy o  h) kv_X12_100 rfl rfl (Nat.le_of_ble_eq_true rfl) ⟨rfl, rfl, Nat.le_of_ble_eq_true rfl, Nat.le_of_ble_eq_true rfl⟩ ⟨Nat.zero_le _, Nat.zero_le _⟩ dX12_readCell_24 (fun r9 m8 h => ?_)
  refine ct_if_ne C dX12_readCell_27 61 (by decide) (fun hc10 => ?_) (fun hc10 => ?_)
  · have h := h.1 hc10
    exact ct_vret C hr hlk dX12_readCell_61 h
  · have h := h.2 hc10
    refine ct_aload_n C dX12_readCell_30 0 rfl rfl ?_
    refine ct_iload_n C dX12_readCell_31 1 rfl rfl ?_
    refine ct_callSi (As := [.int p1]) C (c_X12_at l D cy o  h) kv_X12_88 rfl rfl (Nat.le_of_ble_eq_true rfl) ⟨rfl, rfl, Nat.le_of_ble_eq_true rfl, Nat.le_of_ble_eq_true rfl⟩ ⟨Nat.zero_le _, Nat.zero_le _⟩ dX12_readCell_32 (fun r12 m11 h => ?_)
    refine ct_iconst C dX12_readCell_35 (3 : Int32) (by decide) ?_
    refine ct_iadd C dX12_readCell_36 ?_
    refine ct_iload_n C dX12_readCell_37 2 rfl rfl ?_
    refine ct_iadd C dX12_readCell_38 ?_
    refine ct_iald C dX12_readCell_39 ka0 h.1 ?_
    have h := h.2
    refine ct_if_ne C dX12_readCell_40 61 (by decide) (fun hc13 => ?_) (fun hc13 => ?_)
    · have h := h.1 hc13
      exact ct_vret C hr hlk dX12_readCell_61 h
    · have h := h.2 hc13
      refine ct_aload_n C dX12_readCell_43 0 rfl rfl ?_
      refine ct_iload_n C dX12_readCell_44 1 rfl rfl ?_
      refine ct_callSi (As := [.int p1]) C (c_X12_at l D cy o  h) kv_X12_88 rfl rfl (Nat.le_of_ble_eq_true rfl) ⟨rfl, rfl, Nat.le_of_ble_eq_true rfl, Nat.le_of_ble_eq_true rfl⟩ ⟨Nat.zero_le _, Nat.zero_le _⟩ dX12_readCell_45 (fun r15 m14 h => ?_)
      refine ct_iconst C dX12_readCell_48 (3 : Int32) (by decide) ?_
      refine ct_iadd C dX12_readCell_49 ?_
      refine ct_iload_n C dX12_readCell_50 2 rfl rfl ?_
      refine ct_iadd C dX12_readCell_51 ?_
      refine ct_aload_n C dX12_readCell_52 0 rfl rfl ?_
      refine ct_bipush C dX12_readCell_53 (6 : Int32) (by decide) ?_
      refine ct_iload_n C dX12_readCell_55 2 rfl rfl ?_
      refine ct_iadd C dX12_readCell_56 ?_
      refine ct_iald C dX12_readCell_57 ka0 h.1 ?_
      have h := h.2
      refine ct_iconst C dX12_readCell_58 (1 : Int32) (by decide) ?_
      refine ct_iadd C dX12_readCell_59 ?_
      refine ct_iast C dX12_readCell_60 ka0 h.1 ?_
      have h := h.2
      refine ct_mem (fun m16 em16 => ?_)
      have h := h m16 em16
      exact ct_vret C hr hlk dX12_readCell_61 h
abbrev rm_X12_token : Room := { frames := 5, cells := 0, slots := 0, locals := 109 }
set_option maxHeartbeats 4000000 in
set_option maxRecDepth 100000 in
theorem kb_X12_token_62 {p : Program} {l : Launch} {e : Env} {s : State} {mth : MethodId} {args : Array Value} {below : List Frame} {meth : Method} {c : Code} {D : va_G} {cy : Nat → ClassId} {o : Nat} {Q : Int32 → ct_M → Prop} {v0 : Nat} {v1 : Nat} {v2 : Int32} {v3 : Int32} {v4 : Int32} {s0 : Int32} {m : ct_M} (C : ct_Cx p s mth c cX12_token 6 args RX12 D cy) (hr : meth.sig.returnType = (some .int)) (hlk : meth.locks = false) (kv0 : ct_K 12 v0) (kv1 : ct_K 14 v1) (h : wb_X12_token_62 Q v0 v1 v2 v3 v4 s0 m) : ct_J p l e rm_X12_token s mth args below meth c 6 D cy o ct_NN 0 0 (MQ below (va_Qi Q (ct_P D cy o ct_NN) (fun q => o ≤ q)) args s 0 0 (fun q => o ≤ q)) m 62 [(0, .ref (o + v0)), (1, .ref (o + v1)), (2, .int v2), (3, .int v3), (4, .int v4)] [.int s0] := by
  unfold wb_X12_token_62 at h
  refine ct_istore C dX12_token_62 [(5, .int s0), (0, .ref (o + v0)), (1, .ref (o + v1)), (2, .int v2), (3, .int v3), (4, .int v4)] (by decide) rfl ?_
  refine ct_iload C dX12_token_64 0 rfl ?_
  refine ct_if_eq C dX12_token_66 76 (by decide) (fun hc1 => ?_) (fun hc1 => ?_)
  · have h := h.1 hc1
    refine ct_aload_n C dX12_token_76 1 rfl rfl ?_
    refine gf_X12_20 C dX12_token_77 kv0 ?_
    have hk2 := ct_t12_6 kv0
    refine ct_iload_n C dX12_token_80 4 rfl rfl ?_
    refine ct_iald C dX12_token_81 hk2 h.1 ?_
    have h := h.2
    refine ct_bipush C dX12_token_82 (120 : Int32) (by decide) ?_
    refine ct_icmp_ne C dX12_token_84 94 (by decide) (fun hc3 => ?_) (fun hc3 => ?_)
    · have h := h.1 hc3
      refine ct_aload_n C dX12_token_94 2 rfl rfl ?_
      refine ct_iload_n C dX12_token_95 3 rfl rfl ?_
      refine ct_callSi (As := [.int v2]) C (c_X12_at l D cy o  h) kv_X12_88 rfl rfl (Nat.le_of_ble_eq_true rfl) ⟨rfl, rfl, Nat.le_of_ble_eq_true rfl, Nat.le_of_ble_eq_true rfl⟩ ⟨Nat.zero_le _, Nat.zero_le _⟩ dX12_token_96 (fun r5 m4 h => ?_)
      refine ct_iconst C dX12_token_99 (1 : Int32) (by decide) ?_
      refine ct_iadd C dX12_token_100 ?_
      refine ct_dup2 C dX12_token_101 rfl rfl ?_
      refine ct_iald C dX12_token_102 kv1 h.1 ?_
      have h := h.2
      refine ct_iconst C dX12_token_103 (1 : Int32) (by decide) ?_
      refine ct_iadd C dX12_token_104 ?_
      refine ct_iast C dX12_token_105 kv1 h.1 ?_
      have h := h.2
      refine ct_mem (fun m6 em6 => ?_)
      have h := h m6 em6
      refine ct_aload_n C dX12_token_106 1 rfl rfl ?_
      refine gf_X12_20 C dX12_token_107 kv0 ?_
      refine ct_iload_n C dX12_token_110 4 rfl rfl ?_
      refine ct_iald C dX12_token_111 hk2 h.1 ?_
      have h := h.2
      by_cases hc7 : (m6.1 (v0 + 3) v3.toNatClampNeg) = (40 : Int32)
      · have h := h.1 hc7
        refine ct_lookup C dX12_token_112 295 (by decide) (show Op.lookupswitch.offset _ _ _ = (183 : Int) by rw [hc7]; decide) (by decide) ?_
        refine ct_aload_n C dX12_token_295 2 rfl rfl ?_
        refine ct_iload_n C dX12_token_296 3 rfl rfl ?_
        refine ct_iload_n C dX12_token_297 4 rfl rfl ?_
        refine ct_bipush C dX12_token_298 (60 : Int32) (by decide) ?_
        refine ct_iload_n C dX12_token_300 3 rfl rfl ?_
        refine ct_imul C dX12_token_301 ?_
        refine ct_isub C dX12_token_302 ?_
        refine ct_callSv (As := [.ref (o + v1), .int v2, .int (v3 - ((60 : Int32) * v2))]) C (c_X12_openBlock l D cy o kv1 h) kv_X12_137 rfl rfl (Nat.le_of_ble_eq_true rfl) ⟨rfl, rfl, Nat.le_of_ble_eq_true rfl, Nat.le_of_ble_eq_true rfl⟩ ⟨Nat.zero_le _, Nat.zero_le _⟩ dX12_token_303 (fun m8 h => ?_)
        refine ct_goto C dX12_token_306 357 (by decide) ?_
        refine ct_iconst C dX12_token_357 (0 : Int32) (by decide) ?_
        exact ct_ireti C hr hlk dX12_token_358 h
      · have h := h.2 hc7
        by_cases hc9 : (m6.1 (v0 + 3) v3.toNatClampNeg) = (41 : Int32)
        · have h := h.1 hc9
          refine ct_lookup C dX12_token_112 309 (by decide) (show Op.lookupswitch.offset _ _ _ = (197 : Int) by rw [hc9]; decide) (by decide) ?_
          refine ct_aload_n C dX12_token_309 2 rfl rfl ?_
          refine ct_iload_n C dX12_token_310 3 rfl rfl ?_
          refine ct_callSi (As := [.int v2]) C (c_X12_at l D cy o  h) kv_X12_88 rfl rfl (Nat.le_of_ble_eq_true rfl) ⟨rfl, rfl, Nat.le_of_ble_eq_true rfl, Nat.le_of_ble_eq_true rfl⟩ ⟨Nat.zero_le _, Nat.zero_le _⟩ dX12_token_311 (fun r11 m10 h => ?_)
          refine ct_bipush C dX12_token_314 (16 : Int32) (by decide) ?_
          refine ct_iadd C dX12_token_316 ?_
          refine ct_dup2 C dX12_token_317 rfl rfl ?_
          refine ct_iald C dX12_token_318 kv1 h.1 ?_
          have h := h.2
          refine ct_iconst C dX12_token_319 (1 : Int32) (by decide) ?_
          refine ct_isub C dX12_token_320 ?_
          refine ct_iast C dX12_token_321 kv1 h.1 ?_
          have h := h.2
          refine ct_mem (fun m12 em12 => ?_)
          have h := h m12 em12
          refine ct_goto C dX12_token_322 357 (by decide) ?_
          refine ct_iconst C dX12_token_357 (0 : Int32) (by decide) ?_
          exact ct_ireti C hr hlk dX12_token_358 h
        · have h := h.2 hc9
          by_cases hc13 : (m6.1 (v0 + 3) v3.toNatClampNeg) = (43 : Int32)
          · have h := h.1 hc13
            refine ct_lookup C dX12_token_112 245 (by decide) (show Op.lookupswitch.offset _ _ _ = (133 : Int) by rw [hc13]; decide) (by decide) ?_
            refine ct_aload_n C dX12_token_245 2 rfl rfl ?_
            refine ct_iload_n C dX12_token_246 3 rfl rfl ?_
            refine ct_callSi (As := [.int v2]) C (c_X12_at l D cy o  h) kv_X12_88 rfl rfl (Nat.le_of_ble_eq_true rfl) ⟨rfl, rfl, Nat.le_of_ble_eq_true rfl, Nat.le_of_ble_eq_true rfl⟩ ⟨Nat.zero_le _, Nat.zero_le _⟩ dX12_token_247 (fun r15 m14 h => ?_)
            refine ct_iconst C dX12_token_250 (2 : Int32) (by decide) ?_
            refine ct_iadd C dX12_token_251 ?_
            refine ct_aload_n C dX12_token_252 2 rfl rfl ?_
            refine ct_iload_n C dX12_token_253 3 rfl rfl ?_
            refine ct_callSi (As := [.int v2]) C (c_X12_at l D cy o  h) kv_X12_88 rfl rfl (Nat.le_of_ble_eq_true rfl) ⟨rfl, rfl, Nat.le_of_ble_eq_true rfl, Nat.le_of_ble_eq_true rfl⟩ ⟨Nat.zero_le _, Nat.zero_le _⟩ dX12_token_254 (fun r17 m16 h => ?_)
            refine ct_iconst C dX12_token_257 (2 : Int32) (by decide) ?_
            refine ct_iadd C dX12_token_258 ?_
            refine ct_iald C dX12_token_259 kv1 h.1 ?_
            have h := h.2
            refine ct_iload C dX12_token_260 5 rfl ?_
            refine ct_iadd C dX12_token_262 ?_
            refine ct_callSi (As := [.int ((m16.1 v1 (r17 + (2 : Int32)).toNatClampNeg) + v4)]) C (c_X12_clamp l D cy o  h) kv_X12_134 rfl rfl (Nat.le_of_ble_eq_true rfl) ⟨rfl, rfl, Nat.le_of_ble_eq_true rfl, Nat.le_of_ble_eq_true rfl⟩ ⟨Nat.zero_le _, Nat.zero_le _⟩ dX12_token_263 (fun r19 m18 h => ?_)
            refine ct_iast C dX12_token_266 kv1 h.1 ?_
            have h := h.2
            refine ct_mem (fun m20 em20 => ?_)
            have h := h m20 em20
            refine ct_goto C dX12_token_267 357 (by decide) ?_
            refine ct_iconst C dX12_token_357 (0 : Int32) (by decide) ?_
            exact ct_ireti C hr hlk dX12_token_358 h
          · have h := h.2 hc13
            by_cases hc21 : (m6.1 (v0 + 3) v3.toNatClampNeg) = (45 : Int32)
            · have h := h.1 hc21
              refine ct_lookup C dX12_token_112 270 (by decide) (show Op.lookupswitch.offset _ _ _ = (158 : Int) by rw [hc21]; decide) (by decide) ?_
              refine ct_aload_n C dX12_token_270 2 rfl rfl ?_
              refine ct_iload_n C dX12_token_271 3 rfl rfl ?_
              refine ct_callSi (As := [.int v2]) C (c_X12_at l D cy o  h) kv_X12_88 rfl rfl (Nat.le_of_ble_eq_true rfl) ⟨rfl, rfl, Nat.le_of_ble_eq_true rfl, Nat.le_of_ble_eq_true rfl⟩ ⟨Nat.zero_le _, Nat.zero_le _⟩ dX12_token_272 (fun r23 m22 h => ?_)
              refine ct_iconst C dX12_token_275 (2 : Int32) (by decide) ?_
              refine ct_iadd C dX12_token_276 ?_
              refine ct_aload_n C dX12_token_277 2 rfl rfl ?_
              refine ct_iload_n C dX12_token_278 3 rfl rfl ?_
              refine ct_callSi (As := [.int v2]) C (c_X12_at l D cy o  h) kv_X12_88 rfl rfl (Nat.le_of_ble_eq_true rfl) ⟨rfl, rfl, Nat.le_of_ble_eq_true rfl, Nat.le_of_ble_eq_true rfl⟩ ⟨Nat.zero_le _, Nat.zero_le _⟩ dX12_token_279 (fun r25 m24 h => ?_)
              refine ct_iconst C dX12_token_282 (2 : Int32) (by decide) ?_
              refine ct_iadd C dX12_token_283 ?_
              refine ct_iald C dX12_token_284 kv1 h.1 ?_
              have h := h.2
              refine ct_iload C dX12_token_285 5 rfl ?_
              refine ct_isub C dX12_token_287 ?_
              refine ct_callSi (As := [.int ((m24.1 v1 (r25 + (2 : Int32)).toNatClampNeg) - v4)]) C (c_X12_clamp l D cy o  h) kv_X12_134 rfl rfl (Nat.le_of_ble_eq_true rfl) ⟨rfl, rfl, Nat.le_of_ble_eq_true rfl, Nat.le_of_ble_eq_true rfl⟩ ⟨Nat.zero_le _, Nat.zero_le _⟩ dX12_token_288 (fun r27 m26 h => ?_)
              refine ct_iast C dX12_token_291 kv1 h.1 ?_
              have h := h.2
              refine ct_mem (fun m28 em28 => ?_)
              have h := h m28 em28
              refine ct_goto C dX12_token_292 357 (by decide) ?_
              refine ct_iconst C dX12_token_357 (0 : Int32) (by decide) ?_
              exact ct_ireti C hr hlk dX12_token_358 h
            · have h := h.2 hc21
              by_cases hc29 : (m6.1 (v0 + 3) v3.toNatClampNeg) = (114 : Int32)
              · have h := h.1 hc29
                refine ct_lookup C dX12_token_112 196 (by decide) (show Op.lookupswitch.offset _ _ _ = (84 : Int) by rw [hc29]; decide) (by decide) ?_
                refine ct_aload_n C dX12_token_196 2 rfl rfl ?_
                refine ct_iload_n C dX12_token_197 3 rfl rfl ?_
                refine ct_iload C dX12_token_198 5 rfl ?_
                refine ct_callSv (As := [.ref (o + v1), .int v2, .int v4]) C (c_X12_readCell l D cy o kv1 h) kv_X12_131 rfl rfl (Nat.le_of_ble_eq_true rfl) ⟨rfl, rfl, Nat.le_of_ble_eq_true rfl, Nat.le_of_ble_eq_true rfl⟩ ⟨Nat.zero_le _, Nat.zero_le _⟩ dX12_token_200 (fun m30 h => ?_)
                refine ct_goto C dX12_token_203 357 (by decide) ?_
                refine ct_iconst C dX12_token_357 (0 : Int32) (by decide) ?_
                exact ct_ireti C hr hlk dX12_token_358 h
              · have h := h.2 hc29
                by_cases hc31 : (m6.1 (v0 + 3) v3.toNatClampNeg) = (119 : Int32)
                · have h := h.1 hc31
                  refine ct_lookup C dX12_token_112 206 (by decide) (show Op.lookupswitch.offset _ _ _ = (94 : Int) by rw [hc31]; decide) (by decide) ?_
                  refine ct_aload_n C dX12_token_206 2 rfl rfl ?_
                  refine ct_iload_n C dX12_token_207 3 rfl rfl ?_
                  refine ct_callSi (As := [.int v2]) C (c_X12_at l D cy o  h) kv_X12_88 rfl rfl (Nat.le_of_ble_eq_true rfl) ⟨rfl, rfl, Nat.le_of_ble_eq_true rfl, Nat.le_of_ble_eq_true rfl⟩ ⟨Nat.zero_le _, Nat.zero_le _⟩ dX12_token_208 (fun r33 m32 h => ?_)
                  refine ct_bipush C dX12_token_211 (9 : Int32) (by decide) ?_
                  refine ct_iadd C dX12_token_213 ?_
                  refine ct_dup2 C dX12_token_214 rfl rfl ?_
                  refine ct_iald C dX12_token_215 kv1 h.1 ?_
                  have h := h.2
                  refine ct_iconst C dX12_token_216 (1 : Int32) (by decide) ?_
                  refine ct_iload C dX12_token_217 5 rfl ?_
                  refine ct_ishl C dX12_token_219 ?_
                  refine ct_ior C dX12_token_220 ?_
                  refine ct_iast C dX12_token_221 kv1 h.1 ?_
                  have h := h.2
                  refine ct_mem (fun m34 em34 => ?_)
                  have h := h m34 em34
                  refine ct_aload_n C dX12_token_222 2 rfl rfl ?_
                  refine ct_iload_n C dX12_token_223 3 rfl rfl ?_
                  refine ct_callSi (As := [.int v2]) C (c_X12_at l D cy o  h) kv_X12_88 rfl rfl (Nat.le_of_ble_eq_true rfl) ⟨rfl, rfl, Nat.le_of_ble_eq_true rfl, Nat.le_of_ble_eq_true rfl⟩ ⟨Nat.zero_le _, Nat.zero_le _⟩ dX12_token_224 (fun r36 m35 h => ?_)
                  refine ct_bipush C dX12_token_227 (10 : Int32) (by decide) ?_
                  refine ct_iadd C dX12_token_229 ?_
                  refine ct_iload C dX12_token_230 5 rfl ?_
                  refine ct_iadd C dX12_token_232 ?_
                  refine ct_aload_n C dX12_token_233 2 rfl rfl ?_
                  refine ct_iload_n C dX12_token_234 3 rfl rfl ?_
                  refine ct_callSi (As := [.int v2]) C (c_X12_at l D cy o  h) kv_X12_88 rfl rfl (Nat.le_of_ble_eq_true rfl) ⟨rfl, rfl, Nat.le_of_ble_eq_true rfl, Nat.le_of_ble_eq_true rfl⟩ ⟨Nat.zero_le _, Nat.zero_le _⟩ dX12_token_235 (fun r38 m37 h => ?_)
                  refine ct_iconst C dX12_token_238 (2 : Int32) (by decide) ?_
                  refine ct_iadd C dX12_token_239 ?_
                  refine ct_iald C dX12_token_240 kv1 h.1 ?_
                  have h := h.2
                  refine ct_iast C dX12_token_241 kv1 h.1 ?_
                  have h := h.2
                  refine ct_mem (fun m39 em39 => ?_)
                  have h := h m39 em39
                  refine ct_goto C dX12_token_242 357 (by decide) ?_
                  refine ct_iconst C dX12_token_357 (0 : Int32) (by decide) ?_
                  exact ct_ireti C hr hlk dX12_token_358 h
                · have h := h.2 hc31
                  by_cases hc40 : (m6.1 (v0 + 3) v3.toNatClampNeg) = (123 : Int32)
                  · have h := h.1 hc40
                    refine ct_lookup C dX12_token_112 295 (by decide) (show Op.lookupswitch.offset _ _ _ = (183 : Int) by rw [hc40]; decide) (by decide) ?_
                    refine ct_aload_n C dX12_token_295 2 rfl rfl ?_
                    refine ct_iload_n C dX12_token_296 3 rfl rfl ?_
                    refine ct_iload_n C dX12_token_297 4 rfl rfl ?_
                    refine ct_bipush C dX12_token_298 (60 : Int32) (by decide) ?_
                    refine ct_iload_n C dX12_token_300 3 rfl rfl ?_
                    refine ct_imul C dX12_token_301 ?_
                    refine ct_isub C dX12_token_302 ?_
                    refine ct_callSv (As := [.ref (o + v1), .int v2, .int (v3 - ((60 : Int32) * v2))]) C (c_X12_openBlock l D cy o kv1 h) kv_X12_137 rfl rfl (Nat.le_of_ble_eq_true rfl) ⟨rfl, rfl, Nat.le_of_ble_eq_true rfl, Nat.le_of_ble_eq_true rfl⟩ ⟨Nat.zero_le _, Nat.zero_le _⟩ dX12_token_303 (fun m41 h => ?_)
                    refine ct_goto C dX12_token_306 357 (by decide) ?_
                    refine ct_iconst C dX12_token_357 (0 : Int32) (by decide) ?_
                    exact ct_ireti C hr hlk dX12_token_358 h
                  · have h := h.2 hc40
                    by_cases hc42 : (m6.1 (v0 + 3) v3.toNatClampNeg) = (124 : Int32)
                    · have h := h.1 hc42
                      refine ct_lookup C dX12_token_112 325 (by decide) (show Op.lookupswitch.offset _ _ _ = (213 : Int) by rw [hc42]; decide) (by decide) ?_
                      refine ct_aload_n C dX12_token_325 2 rfl rfl ?_
                      refine ct_iload_n C dX12_token_326 3 rfl rfl ?_
                      refine ct_callSi (As := [.int v2]) C (c_X12_at l D cy o  h) kv_X12_88 rfl rfl (Nat.le_of_ble_eq_true rfl) ⟨rfl, rfl, Nat.le_of_ble_eq_true rfl, Nat.le_of_ble_eq_true rfl⟩ ⟨Nat.zero_le _, Nat.zero_le _⟩ dX12_token_327 (fun r44 m43 h => ?_)
                      refine ct_bipush C dX12_token_330 (16 : Int32) (by decide) ?_
                      refine ct_iadd C dX12_token_332 ?_
                      refine ct_dup2 C dX12_token_333 rfl rfl ?_
                      refine ct_iald C dX12_token_334 kv1 h.1 ?_
                      have h := h.2
                      refine ct_iconst C dX12_token_335 (1 : Int32) (by decide) ?_
                      refine ct_isub C dX12_token_336 ?_
                      refine ct_iast C dX12_token_337 kv1 h.1 ?_
                      have h := h.2
                      refine ct_mem (fun m45 em45 => ?_)
                      have h := h m45 em45
                      refine ct_aload_n C dX12_token_338 2 rfl rfl ?_
                      refine ct_iload_n C dX12_token_339 3 rfl rfl ?_
                      refine ct_callSi (As := [.int v2]) C (c_X12_at l D cy o  h) kv_X12_88 rfl rfl (Nat.le_of_ble_eq_true rfl) ⟨rfl, rfl, Nat.le_of_ble_eq_true rfl, Nat.le_of_ble_eq_true rfl⟩ ⟨Nat.zero_le _, Nat.zero_le _⟩ dX12_token_340 (fun r47 m46 h => ?_)
                      refine ct_iconst C dX12_token_343 (1 : Int32) (by decide) ?_
                      refine ct_iadd C dX12_token_344 ?_
                      refine ct_aload_n C dX12_token_345 1 rfl rfl ?_
                      refine gf_X12_29 C dX12_token_346 kv0 ?_
                      have hk48 := ct_t12_9 kv0
                      refine ct_iload_n C dX12_token_349 4 rfl rfl ?_
                      refine ct_iald C dX12_token_350 hk48 h.1 ?_
                      have h := h.2
                      refine ct_iconst C dX12_token_351 (1 : Int32) (by decide) ?_
                      refine ct_iadd C dX12_token_352 ?_
                      refine ct_iast C dX12_token_353 kv1 h.1 ?_
                      have h := h.2
                      refine ct_mem (fun m49 em49 => ?_)
                      have h := h m49 em49
                      refine ct_goto C dX12_token_354 357 (by decide) ?_
                      refine ct_iconst C dX12_token_357 (0 : Int32) (by decide) ?_
                      exact ct_ireti C hr hlk dX12_token_358 h
                    · have h := h.2 hc42
                      by_cases hc50 : (m6.1 (v0 + 3) v3.toNatClampNeg) = (125 : Int32)
                      · have h := h.1 hc50
                        refine ct_lookup C dX12_token_112 309 (by decide) (show Op.lookupswitch.offset _ _ _ = (197 : Int) by rw [hc50]; decide) (by decide) ?_
                        refine ct_aload_n C dX12_token_309 2 rfl rfl ?_
                        refine ct_iload_n C dX12_token_310 3 rfl rfl ?_
                        refine ct_callSi (As := [.int v2]) C (c_X12_at l D cy o  h) kv_X12_88 rfl rfl (Nat.le_of_ble_eq_true rfl) ⟨rfl, rfl, Nat.le_of_ble_eq_true rfl, Nat.le_of_ble_eq_true rfl⟩ ⟨Nat.zero_le _, Nat.zero_le _⟩ dX12_token_311 (fun r52 m51 h => ?_)
                        refine ct_bipush C dX12_token_314 (16 : Int32) (by decide) ?_
                        refine ct_iadd C dX12_token_316 ?_
                        refine ct_dup2 C dX12_token_317 rfl rfl ?_
                        refine ct_iald C dX12_token_318 kv1 h.1 ?_
                        have h := h.2
                        refine ct_iconst C dX12_token_319 (1 : Int32) (by decide) ?_
                        refine ct_isub C dX12_token_320 ?_
                        refine ct_iast C dX12_token_321 kv1 h.1 ?_
                        have h := h.2
                        refine ct_mem (fun m53 em53 => ?_)
                        have h := h m53 em53
                        refine ct_goto C dX12_token_322 357 (by decide) ?_
                        refine ct_iconst C dX12_token_357 (0 : Int32) (by decide) ?_
                        exact ct_ireti C hr hlk dX12_token_358 h
                      · have h := h.2 hc50
                        refine ct_lookup (off := 245) C dX12_token_112 357 (by decide) ((lv_osw hc7 (by decide)).trans ((lv_osw hc9 (by decide)).trans ((lv_osw hc13 (by decide)).trans ((lv_osw hc21 (by decide)).trans ((lv_osw hc29 (by decide)).trans ((lv_osw hc31 (by decide)).trans ((lv_osw hc40 (by decide)).trans ((lv_osw hc42 (by decide)).trans ((lv_osw hc50 (by decide)).trans rfl))))))))) (by decide) ?_
                        refine ct_iconst C dX12_token_357 (0 : Int32) (by decide) ?_
                        exact ct_ireti C hr hlk dX12_token_358 h
    · have h := h.2 hc3
      refine ct_aload_n C dX12_token_87 1 rfl rfl ?_
      refine ct_aload_n C dX12_token_88 2 rfl rfl ?_
      refine ct_iload_n C dX12_token_89 3 rfl rfl ?_
      refine ct_callVi (As := [.ref (o + v1), .int v2]) (T := TX12) C (c_X12_abandon l D cy o kv0 kv1 h) kv_X12_128 kv0.1 (ct_E12 kv0) rfl rfl rfl (Nat.le_of_ble_eq_true rfl) ⟨rfl, rfl, Nat.le_of_ble_eq_true rfl, Nat.le_of_ble_eq_true rfl⟩ ⟨Nat.zero_le _, Nat.zero_le _⟩ dX12_token_90 (fun r55 m54 h => ?_)
      exact ct_ireti C hr hlk dX12_token_93 h
  · have h := h.2 hc1
    refine ct_aload_n C dX12_token_69 1 rfl rfl ?_
    refine ct_aload_n C dX12_token_70 2 rfl rfl ?_
    refine ct_iload_n C dX12_token_71 3 rfl rfl ?_
    refine ct_callVi (As := [.ref (o + v1), .int v2]) (T := TX12) C (c_X12_retry l D cy o kv0 kv1 h) kv_X12_125 kv0.1 (ct_E12 kv0) rfl rfl rfl (Nat.le_of_ble_eq_true rfl) ⟨rfl, rfl, Nat.le_of_ble_eq_true rfl, Nat.le_of_ble_eq_true rfl⟩ ⟨Nat.zero_le _, Nat.zero_le _⟩ dX12_token_72 (fun r57 m56 h => ?_)
    exact ct_ireti C hr hlk dX12_token_75 h
set_option maxHeartbeats 4000000 in
set_option maxRecDepth 100000 in
theorem kb_X12_token_61 {p : Program} {l : Launch} {e : Env} {s : State} {mth : MethodId} {args : Array Value} {below : List Frame} {meth : Method} {c : Code} {D : va_G} {cy : Nat → ClassId} {o : Nat} {Q : Int32 → ct_M → Prop} {v0 : Nat} {v1 : Nat} {v2 : Int32} {v3 : Int32} {v4 : Int32} {m : ct_M} (C : ct_Cx p s mth c cX12_token 6 args RX12 D cy) (hr : meth.sig.returnType = (some .int)) (hlk : meth.locks = false) (kv0 : ct_K 12 v0) (kv1 : ct_K 14 v1) (h : wb_X12_token_61 Q v0 v1 v2 v3 v4 m) : ct_J p l e rm_X12_token s mth args below meth c 6 D cy o ct_NN 0 0 (MQ below (va_Qi Q (ct_P D cy o ct_NN) (fun q => o ≤ q)) args s 0 0 (fun q => o ≤ q)) m 61 [(0, .ref (o + v0)), (1, .ref (o + v1)), (2, .int v2), (3, .int v3), (4, .int v4)] [] := by
  unfold wb_X12_token_61 at h
  refine ct_iconst C dX12_token_61 (0 : Int32) (by decide) ?_
  refine ct_sub [0, 1, 2, 3, 4] [(0, .ref (o + v0)), (1, .ref (o + v1)), (2, .int v2), (3, .int v3), (4, .int v4)] rfl ?_
  exact kb_X12_token_62 C hr hlk  kv0 kv1 h
set_option maxHeartbeats 4000000 in
set_option maxRecDepth 100000 in
theorem kb_X12_token_57 {p : Program} {l : Launch} {e : Env} {s : State} {mth : MethodId} {args : Array Value} {below : List Frame} {meth : Method} {c : Code} {D : va_G} {cy : Nat → ClassId} {o : Nat} {Q : Int32 → ct_M → Prop} {v0 : Nat} {v1 : Nat} {v2 : Int32} {v3 : Int32} {v4 : Int32} {m : ct_M} (C : ct_Cx p s mth c cX12_token 6 args RX12 D cy) (hr : meth.sig.returnType = (some .int)) (hlk : meth.locks = false) (kv0 : ct_K 12 v0) (kv1 : ct_K 14 v1) (h : wb_X12_token_57 Q v0 v1 v2 v3 v4 m) : ct_J p l e rm_X12_token s mth args below meth c 6 D cy o ct_NN 0 0 (MQ below (va_Qi Q (ct_P D cy o ct_NN) (fun q => o ≤ q)) args s 0 0 (fun q => o ≤ q)) m 57 [(0, .ref (o + v0)), (1, .ref (o + v1)), (2, .int v2), (3, .int v3), (4, .int v4)] [] := by
  unfold wb_X12_token_57 at h
  refine ct_iconst C dX12_token_57 (1 : Int32) (by decide) ?_
  refine ct_goto C dX12_token_58 62 (by decide) ?_
  refine ct_sub [0, 1, 2, 3, 4] [(0, .ref (o + v0)), (1, .ref (o + v1)), (2, .int v2), (3, .int v3), (4, .int v4)] rfl ?_
  exact kb_X12_token_62 C hr hlk  kv0 kv1 h
set_option maxHeartbeats 4000000 in
set_option maxRecDepth 100000 in
theorem c_X12_token (l : Launch) (D : va_G) (cy : Nat → ClassId) (o : Nat) {a0 : Nat} {a1 : Nat} {p2 : Int32} {Q : Int32 → ct_M → Prop} {m : ct_M} (ka0 : ct_K 12 a0) (ka1 : ct_K 14 a1) (h : wp_X12_token a0 a1 p2 Q m) : Met l yX12_token (ct_ws yX12_token cX12_token 6 (some .int)) rm_X12_token (va_Pc [.ref (o + a0), .ref (o + a1), .int p2] (ct_P D cy o ct_NN m)) (va_Qi Q (ct_P D cy o ct_NN) (fun q => o ≤ q)) 0 0 (fun q => o ≤ q) := by
  refine ct_met l D cy o ct_NN m (by decide) (Nat.le_of_ble_eq_true rfl) (fun p e s mth args below meth c C hr hlk => ?_)
  refine ct_sub [0, 1, 2] [(0, .ref (o + a0)), (1, .ref (o + a1)), (2, .int p2)] rfl ?_
  unfold wp_X12_token at h
  refine ct_bipush C dX12_token_0 (60 : Int32) (by decide) ?_
  refine ct_iload_n C dX12_token_2 2 rfl rfl ?_
  refine ct_imul C dX12_token_3 ?_
  refine ct_aload_n C dX12_token_4 1 rfl rfl ?_
  refine ct_iload_n C dX12_token_5 2 rfl rfl ?_
  refine ct_callSi (As := [.int p2]) C (c_X12_at l D cy o  h) kv_X12_88 rfl rfl (Nat.le_of_ble_eq_true rfl) ⟨rfl, rfl, Nat.le_of_ble_eq_true rfl, Nat.le_of_ble_eq_true rfl⟩ ⟨Nat.zero_le _, Nat.zero_le _⟩ dX12_token_6 (fun r2 m1 h => ?_)
  refine ct_iconst C dX12_token_9 (1 : Int32) (by decide) ?_
  refine ct_iadd C dX12_token_10 ?_
  refine ct_iald C dX12_token_11 ka1 h.1 ?_
  have h := h.2
  refine ct_iadd C dX12_token_12 ?_
  refine ct_topi (fun x3 ex3 => ?_)
  have h := h x3 ex3
  refine ct_istore_n C dX12_token_13 [(3, .int x3), (0, .ref (o + a0)), (1, .ref (o + a1)), (2, .int p2)] rfl (by decide) rfl ?_
  refine ct_aload_n C dX12_token_14 1 rfl rfl ?_
  refine gf_X12_23 C dX12_token_15 ka0 ?_
  have hk4 := ct_t12_7 ka0
  refine ct_iload_n C dX12_token_18 0 rfl rfl ?_
  refine ct_iald C dX12_token_19 hk4 h.1 ?_
  have h := h.2
  refine ct_topi (fun x5 ex5 => ?_)
  have h := h x5 ex5
  refine ct_istore C dX12_token_20 [(4, .int x5), (3, .int x3), (0, .ref (o + a0)), (1, .ref (o + a1)), (2, .int p2)] (by decide) rfl ?_
  refine ct_aload_n C dX12_token_22 2 rfl rfl ?_
  refine gf_X12_20 C dX12_token_23 ka0 ?_
  have hk6 := ct_t12_6 ka0
  refine ct_iload_n C dX12_token_26 1 rfl rfl ?_
  refine ct_iald C dX12_token_27 hk6 h.1 ?_
  have h := h.2
  refine ct_bipush C dX12_token_28 (33 : Int32) (by decide) ?_
  refine ct_icmp_eq C dX12_token_30 57 (by decide) (fun hc7 => ?_) (fun hc7 => ?_)
  · have h := h.1 hc7
    refine ct_sub [2, 3, 4, 1, 0] [(0, .ref (o + a0)), (1, .ref (o + a1)), (2, .int p2), (3, .int x3), (4, .int x5)] rfl ?_
    exact kb_X12_token_57 C hr hlk  ka0 ka1 h
  · have h := h.2 hc7
    refine ct_aload_n C dX12_token_33 2 rfl rfl ?_
    refine gf_X12_20 C dX12_token_34 ka0 ?_
    refine ct_iload_n C dX12_token_37 1 rfl rfl ?_
    refine ct_iald C dX12_token_38 hk6 h.1 ?_
    have h := h.2
    refine ct_bipush C dX12_token_39 (63 : Int32) (by decide) ?_
    refine ct_icmp_ne C dX12_token_41 61 (by decide) (fun hc8 => ?_) (fun hc8 => ?_)
    · have h := h.1 hc8
      refine ct_sub [2, 3, 4, 1, 0] [(0, .ref (o + a0)), (1, .ref (o + a1)), (2, .int p2), (3, .int x3), (4, .int x5)] rfl ?_
      exact kb_X12_token_61 C hr hlk  ka0 ka1 h
    · have h := h.2 hc8
      refine ct_aload_n C dX12_token_44 3 rfl rfl ?_
      refine ct_iload_n C dX12_token_45 4 rfl rfl ?_
      refine ct_callSi (As := [.int p2]) C (c_X12_at l D cy o  h) kv_X12_88 rfl rfl (Nat.le_of_ble_eq_true rfl) ⟨rfl, rfl, Nat.le_of_ble_eq_true rfl, Nat.le_of_ble_eq_true rfl⟩ ⟨Nat.zero_le _, Nat.zero_le _⟩ dX12_token_46 (fun r10 m9 h => ?_)
      refine ct_iconst C dX12_token_49 (2 : Int32) (by decide) ?_
      refine ct_iadd C dX12_token_50 ?_
      refine ct_iald C dX12_token_51 ka1 h.1 ?_
      have h := h.2
      refine ct_iload C dX12_token_52 0 rfl ?_
      refine ct_icmp_ge C dX12_token_54 61 (by decide) (fun hc11 => ?_) (fun hc11 => ?_)
      · have h := h.1 hc11
        refine ct_sub [2, 3, 4, 1, 0] [(0, .ref (o + a0)), (1, .ref (o + a1)), (2, .int p2), (3, .int x3), (4, .int x5)] rfl ?_
        exact kb_X12_token_61 C hr hlk  ka0 ka1 h
      · have h := h.2 hc11
        refine ct_sub [2, 3, 4, 1, 0] [(0, .ref (o + a0)), (1, .ref (o + a1)), (2, .int p2), (3, .int x3), (4, .int x5)] rfl ?_
        exact kb_X12_token_57 C hr hlk  ka0 ka1 h
abbrev rm_X12_stepOn : Room := { frames := 6, cells := 0, slots := 0, locals := 134 }
set_option maxHeartbeats 4000000 in
set_option maxRecDepth 100000 in
theorem kb_X12_stepOn_19 {p : Program} {l : Launch} {e : Env} {s : State} {mth : MethodId} {args : Array Value} {below : List Frame} {meth : Method} {c : Code} {D : va_G} {cy : Nat → ClassId} {o : Nat} {Q : Int32 → ct_M → Prop} {v0 : Nat} {v1 : Nat} {v2 : Int32} {s0 : Int32} {m : ct_M} (C : ct_Cx p s mth c cX12_stepOn 4 args RX12 D cy) (hr : meth.sig.returnType = (some .int)) (hlk : meth.locks = false) (kv0 : ct_K 12 v0) (kv1 : ct_K 14 v1) (h : wb_X12_stepOn_19 Q v0 v1 v2 s0 m) : ct_J p l e rm_X12_stepOn s mth args below meth c 4 D cy o ct_NN 0 0 (MQ below (va_Qi Q (ct_P D cy o ct_NN) (fun q => o ≤ q)) args s 0 0 (fun q => o ≤ q)) m 19 [(0, .ref (o + v0)), (1, .ref (o + v1)), (2, .int v2)] [.int s0] := by
  unfold wb_X12_stepOn_19 at h
  refine ct_istore_n C dX12_stepOn_19 [(3, .int s0), (0, .ref (o + v0)), (1, .ref (o + v1)), (2, .int v2)] rfl (by decide) rfl ?_
  refine ct_iload_n C dX12_stepOn_20 0 rfl rfl ?_
  refine ct_if_ne C dX12_stepOn_21 50 (by decide) (fun hc1 => ?_) (fun hc1 => ?_)
  · have h := h.1 hc1
    refine ct_iload_n C dX12_stepOn_50 0 rfl rfl ?_
    exact ct_ireti C hr hlk dX12_stepOn_51 h
  · have h := h.2 hc1
    refine ct_aload_n C dX12_stepOn_24 2 rfl rfl ?_
    refine ct_iload_n C dX12_stepOn_25 3 rfl rfl ?_
    refine ct_callSi (As := [.int v2]) C (c_X12_at l D cy o  h) kv_X12_88 rfl rfl (Nat.le_of_ble_eq_true rfl) ⟨rfl, rfl, Nat.le_of_ble_eq_true rfl, Nat.le_of_ble_eq_true rfl⟩ ⟨Nat.zero_le _, Nat.zero_le _⟩ dX12_stepOn_26 (fun r3 m2 h => ?_)
    refine ct_iconst C dX12_stepOn_29 (1 : Int32) (by decide) ?_
    refine ct_iadd C dX12_stepOn_30 ?_
    refine ct_iald C dX12_stepOn_31 kv1 h.1 ?_
    have h := h.2
    refine ct_aload_n C dX12_stepOn_32 1 rfl rfl ?_
    refine gf_X12_17 C dX12_stepOn_33 kv0 ?_
    have hk4 := ct_t12_5 kv0
    refine ct_iload_n C dX12_stepOn_36 3 rfl rfl ?_
    refine ct_iald C dX12_stepOn_37 hk4 h.1 ?_
    have h := h.2
    refine ct_icmp_ne C dX12_stepOn_38 50 (by decide) (fun hc5 => ?_) (fun hc5 => ?_)
    · have h := h.1 hc5
      refine ct_iload_n C dX12_stepOn_50 0 rfl rfl ?_
      exact ct_ireti C hr hlk dX12_stepOn_51 h
    · have h := h.2 hc5
      refine ct_aload_n C dX12_stepOn_41 1 rfl rfl ?_
      refine ct_aload_n C dX12_stepOn_42 2 rfl rfl ?_
      refine ct_iload_n C dX12_stepOn_43 3 rfl rfl ?_
      refine ct_callVi (As := [.ref (o + v1), .int v2]) (T := TX12) C (c_X12_commit l D cy o kv0 kv1 h) kv_X12_143 kv0.1 (ct_E12 kv0) rfl rfl rfl (Nat.le_of_ble_eq_true rfl) ⟨rfl, rfl, Nat.le_of_ble_eq_true rfl, Nat.le_of_ble_eq_true rfl⟩ ⟨Nat.zero_le _, Nat.zero_le _⟩ dX12_stepOn_44 (fun r7 m6 h => ?_)
      refine ct_goto C dX12_stepOn_47 51 (by decide) ?_
      exact ct_ireti C hr hlk dX12_stepOn_51 h
set_option maxHeartbeats 4000000 in
set_option maxRecDepth 100000 in
theorem c_X12_stepOn (l : Launch) (D : va_G) (cy : Nat → ClassId) (o : Nat) {a0 : Nat} {a1 : Nat} {p2 : Int32} {Q : Int32 → ct_M → Prop} {m : ct_M} (ka0 : ct_K 12 a0) (ka1 : ct_K 14 a1) (h : wp_X12_stepOn a0 a1 p2 Q m) : Met l yX12_stepOn (ct_ws yX12_stepOn cX12_stepOn 4 (some .int)) rm_X12_stepOn (va_Pc [.ref (o + a0), .ref (o + a1), .int p2] (ct_P D cy o ct_NN m)) (va_Qi Q (ct_P D cy o ct_NN) (fun q => o ≤ q)) 0 0 (fun q => o ≤ q) := by
  refine ct_met l D cy o ct_NN m (by decide) (Nat.le_of_ble_eq_true rfl) (fun p e s mth args below meth c C hr hlk => ?_)
  refine ct_sub [0, 1, 2] [(0, .ref (o + a0)), (1, .ref (o + a1)), (2, .int p2)] rfl ?_
  unfold wp_X12_stepOn at h
  refine ct_aload_n C dX12_stepOn_0 0 rfl rfl ?_
  refine gf_X12_17 C dX12_stepOn_1 ka0 ?_
  have hk1 := ct_t12_5 ka0
  refine ct_iload_n C dX12_stepOn_4 2 rfl rfl ?_
  refine ct_iald C dX12_stepOn_5 hk1 h.1 ?_
  have h := h.2
  refine ct_if_ne C dX12_stepOn_6 13 (by decide) (fun hc2 => ?_) (fun hc2 => ?_)
  · have h := h.1 hc2
    refine ct_aload_n C dX12_stepOn_13 0 rfl rfl ?_
    refine ct_aload_n C dX12_stepOn_14 1 rfl rfl ?_
    refine ct_iload_n C dX12_stepOn_15 2 rfl rfl ?_
    refine ct_callVi (As := [.ref (o + a1), .int p2]) (T := TX12) C (c_X12_token l D cy o ka0 ka1 h) kv_X12_140 ka0.1 (ct_E12 ka0) rfl rfl rfl (Nat.le_of_ble_eq_true rfl) ⟨rfl, rfl, Nat.le_of_ble_eq_true rfl, Nat.le_of_ble_eq_true rfl⟩ ⟨Nat.zero_le _, Nat.zero_le _⟩ dX12_stepOn_16 (fun r4 m3 h => ?_)
    refine ct_sub [0, 1, 2] [(0, .ref (o + a0)), (1, .ref (o + a1)), (2, .int p2)] rfl ?_
    exact kb_X12_stepOn_19 C hr hlk  ka0 ka1 h
  · have h := h.2 hc2
    refine ct_iconst C dX12_stepOn_9 (0 : Int32) (by decide) ?_
    refine ct_goto C dX12_stepOn_10 19 (by decide) ?_
    refine ct_sub [0, 1, 2] [(0, .ref (o + a0)), (1, .ref (o + a1)), (2, .int p2)] rfl ?_
    exact kb_X12_stepOn_19 C hr hlk  ka0 ka1 h
abbrev rm_X12_append : Room := { frames := 1, cells := 0, slots := 0, locals := 25 }
set_option maxHeartbeats 4000000 in
set_option maxRecDepth 100000 in
theorem c_X12_append (l : Launch) (D : va_G) (cy : Nat → ClassId) (o : Nat) {a0 : Nat} {p1 : Int32} {Q : Int32 → ct_M → Prop} {m : ct_M} (ka0 : ct_K 12 a0) (h : wp_X12_append a0 p1 Q m) : Met l yX12_append (ct_ws yX12_append cX12_append 2 (some .int)) rm_X12_append (va_Pc [.ref (o + a0), .int p1] (ct_P D cy o ct_NN m)) (va_Qi Q (ct_P D cy o ct_NN) (fun q => o ≤ q)) 0 0 (fun q => o ≤ q) := by
  refine ct_met l D cy o ct_NN m (by decide) (Nat.le_of_ble_eq_true rfl) (fun p e s mth args below meth c C hr hlk => ?_)
  refine ct_sub [0, 1] [(0, .ref (o + a0)), (1, .int p1)] rfl ?_
  unfold wp_X12_append at h
  refine ct_aload_n C dX12_append_0 0 rfl rfl ?_
  refine ct_iconst C dX12_append_1 (0 : Int32) (by decide) ?_
  refine pf_X12_85 C dX12_append_2 ka0 ?_
  refine ct_mem (fun m1 em1 => ?_)
  have h := h m1 em1
  refine ct_iload_n C dX12_append_5 1 rfl rfl ?_
  refine ct_i2l C dX12_append_6 ?_
  refine ct_lconst C dX12_append_7 (0 : Int64) (by decide) ?_
  refine ct_ldc2 C dX12_append_8 mw_494 ?_
  refine ct_callSi (As := [.long p1.toInt64, .long (0 : Int64), .long (255 : Int64)]) C (c_X12_in l D cy o  h) kv_X12_148 rfl rfl (Nat.le_of_ble_eq_true rfl) ⟨rfl, rfl, Nat.le_of_ble_eq_true rfl, Nat.le_of_ble_eq_true rfl⟩ ⟨Nat.zero_le _, Nat.zero_le _⟩ dX12_append_11 (fun r3 m2 h => ?_)
  refine ct_if_ne C dX12_append_14 20 (by decide) (fun hc4 => ?_) (fun hc4 => ?_)
  · have h := h.1 hc4
    refine ct_aload_n C dX12_append_20 0 rfl rfl ?_
    refine gf_X12_152 C dX12_append_21 ka0 ?_
    refine ct_bipush C dX12_append_24 (60 : Int32) (by decide) ?_
    refine ct_icmp_ne C dX12_append_26 32 (by decide) (fun hc5 => ?_) (fun hc5 => ?_)
    · have h := h.1 hc5
      refine ct_aload_n C dX12_append_32 0 rfl rfl ?_
      refine gf_X12_7 C dX12_append_33 ka0 ?_
      have hk6 := ct_t12_1 ka0
      refine ct_aload_n C dX12_append_36 0 rfl rfl ?_
      refine gf_X12_152 C dX12_append_37 ka0 ?_
      refine ct_iload_n C dX12_append_40 1 rfl rfl ?_
      refine ct_iast C dX12_append_41 hk6 h.1 ?_
      have h := h.2
      refine ct_mem (fun m7 em7 => ?_)
      have h := h m7 em7
      refine ct_aload_n C dX12_append_42 0 rfl rfl ?_
      refine ct_dup C dX12_append_43 rfl ?_
      refine gf_X12_152 C dX12_append_44 ka0 ?_
      refine ct_iconst C dX12_append_47 (1 : Int32) (by decide) ?_
      refine ct_iadd C dX12_append_48 ?_
      refine pf_X12_152 C dX12_append_49 ka0 ?_
      refine ct_mem (fun m8 em8 => ?_)
      have h := h m8 em8
      refine ct_aload_n C dX12_append_52 0 rfl rfl ?_
      refine gf_X12_152 C dX12_append_53 ka0 ?_
      exact ct_ireti C hr hlk dX12_append_56 h
    · have h := h.2 hc5
      refine ct_bipush C dX12_append_29 (-4 : Int32) (by decide) ?_
      exact ct_ireti C hr hlk dX12_append_31 h
  · have h := h.2 hc4
    refine ct_bipush C dX12_append_17 (-2 : Int32) (by decide) ?_
    exact ct_ireti C hr hlk dX12_append_19 h
abbrev rm_X12_clearText : Room := { frames := 0, cells := 0, slots := 0, locals := 0 }
set_option maxHeartbeats 4000000 in
set_option maxRecDepth 100000 in
theorem c_X12_clearText (l : Launch) (D : va_G) (cy : Nat → ClassId) (o : Nat) {a0 : Nat} {Q : Int32 → ct_M → Prop} {m : ct_M} (ka0 : ct_K 12 a0) (h : wp_X12_clearText a0 Q m) : Met l yX12_clearText (ct_ws yX12_clearText cX12_clearText 2 (some .int)) rm_X12_clearText (va_Pc [.ref (o + a0)] (ct_P D cy o ct_NN m)) (va_Qi Q (ct_P D cy o ct_NN) (fun q => o ≤ q)) 0 0 (fun q => o ≤ q) := by
  refine ct_met l D cy o ct_NN m (by decide) (Nat.le_of_ble_eq_true rfl) (fun p e s mth args below meth c C hr hlk => ?_)
  refine ct_sub [0] [(0, .ref (o + a0))] rfl ?_
  unfold wp_X12_clearText at h
  refine ct_aload_n C dX12_clearText_0 0 rfl rfl ?_
  refine ct_iconst C dX12_clearText_1 (0 : Int32) (by decide) ?_
  refine pf_X12_85 C dX12_clearText_2 ka0 ?_
  refine ct_mem (fun m1 em1 => ?_)
  have h := h m1 em1
  refine ct_aload_n C dX12_clearText_5 0 rfl rfl ?_
  refine gf_X12_152 C dX12_clearText_6 ka0 ?_
  refine ct_topi (fun x2 ex2 => ?_)
  have h := h x2 ex2
  refine ct_istore_n C dX12_clearText_9 [(1, .int x2), (0, .ref (o + a0))] rfl (by decide) rfl ?_
  refine ct_aload_n C dX12_clearText_10 1 rfl rfl ?_
  refine ct_iconst C dX12_clearText_11 (0 : Int32) (by decide) ?_
  refine pf_X12_152 C dX12_clearText_12 ka0 ?_
  refine ct_mem (fun m3 em3 => ?_)
  have h := h m3 em3
  refine ct_iload_n C dX12_clearText_15 0 rfl rfl ?_
  exact ct_ireti C hr hlk dX12_clearText_16 h
abbrev rm_X12_number : Room := { frames := 1, cells := 0, slots := 0, locals := 25 }
set_option maxHeartbeats 4000000 in
set_option maxRecDepth 100000 in
theorem kb_X12_number_28 {p : Program} {l : Launch} {e : Env} {s : State} {mth : MethodId} {args : Array Value} {below : List Frame} {meth : Method} {c : Code} {D : va_G} {cy : Nat → ClassId} {o : Nat} {Q : Int32 → ct_M → Prop} {v0 : Nat} {v1 : Int32} {v2 : Int32} {s0 : Int32} {m : ct_M} (C : ct_Cx p s mth c cX12_number 4 args RX12 D cy) (hr : meth.sig.returnType = (some .int)) (hlk : meth.locks = false) (kv0 : ct_K 12 v0) (h : wb_X12_number_28 Q v0 v1 v2 s0 m) : ct_J p l e rm_X12_number s mth args below meth c 4 D cy o ct_NN 0 0 (MQ below (va_Qi Q (ct_P D cy o ct_NN) (fun q => o ≤ q)) args s 0 0 (fun q => o ≤ q)) m 28 [(0, .ref (o + v0)), (1, .int v1), (2, .int v2)] [.int s0] := by
  unfold wb_X12_number_28 at h
  refine ct_istore_n C dX12_number_28 [(3, .int s0), (0, .ref (o + v0)), (1, .int v1), (2, .int v2)] rfl (by decide) rfl ?_
  refine ct_iload_n C dX12_number_29 0 rfl rfl ?_
  refine ct_i2l C dX12_number_30 ?_
  refine ct_iload_n C dX12_number_31 2 rfl rfl ?_
  refine ct_i2l C dX12_number_32 ?_
  refine ct_iload_n C dX12_number_33 3 rfl rfl ?_
  refine ct_i2l C dX12_number_34 ?_
  refine ct_callSi (As := [.long s0.toInt64, .long v1.toInt64, .long v2.toInt64]) C (c_X12_in l D cy o  h) kv_X12_148 rfl rfl (Nat.le_of_ble_eq_true rfl) ⟨rfl, rfl, Nat.le_of_ble_eq_true rfl, Nat.le_of_ble_eq_true rfl⟩ ⟨Nat.zero_le _, Nat.zero_le _⟩ dX12_number_35 (fun r2 m1 h => ?_)
  refine ct_if_ne C dX12_number_38 44 (by decide) (fun hc3 => ?_) (fun hc3 => ?_)
  · have h := h.1 hc3
    refine ct_aload_n C dX12_number_44 1 rfl rfl ?_
    refine ct_dup C dX12_number_45 rfl ?_
    refine gf_X12_155 C dX12_number_46 kv0 ?_
    refine ct_iconst C dX12_number_49 (1 : Int32) (by decide) ?_
    refine ct_iadd C dX12_number_50 ?_
    refine pf_X12_155 C dX12_number_51 kv0 ?_
    refine ct_mem (fun m4 em4 => ?_)
    have h := h m4 em4
    refine ct_iload_n C dX12_number_54 0 rfl rfl ?_
    exact ct_ireti C hr hlk dX12_number_55 h
  · have h := h.2 hc3
    refine ct_bipush C dX12_number_41 (-9 : Int32) (by decide) ?_
    exact ct_ireti C hr hlk dX12_number_43 h
set_option maxHeartbeats 4000000 in
set_option maxRecDepth 100000 in
theorem c_X12_number (l : Launch) (D : va_G) (cy : Nat → ClassId) (o : Nat) {a0 : Nat} {p1 : Int32} {p2 : Int32} {Q : Int32 → ct_M → Prop} {m : ct_M} (ka0 : ct_K 12 a0) (h : wp_X12_number a0 p1 p2 Q m) : Met l yX12_number (ct_ws yX12_number cX12_number 4 (some .int)) rm_X12_number (va_Pc [.ref (o + a0), .int p1, .int p2] (ct_P D cy o ct_NN m)) (va_Qi Q (ct_P D cy o ct_NN) (fun q => o ≤ q)) 0 0 (fun q => o ≤ q) := by
  refine ct_met l D cy o ct_NN m (by decide) (Nat.le_of_ble_eq_true rfl) (fun p e s mth args below meth c C hr hlk => ?_)
  refine ct_sub [0, 1, 2] [(0, .ref (o + a0)), (1, .int p1), (2, .int p2)] rfl ?_
  unfold wp_X12_number at h
  refine ct_aload_n C dX12_number_0 0 rfl rfl ?_
  refine gf_X12_155 C dX12_number_1 ka0 ?_
  refine ct_aload_n C dX12_number_4 0 rfl rfl ?_
  refine gf_X12_152 C dX12_number_5 ka0 ?_
  refine ct_icmp_ge C dX12_number_8 26 (by decide) (fun hc1 => ?_) (fun hc1 => ?_)
  · have h := h.1 hc1
    refine ct_bipush C dX12_number_26 (-9 : Int32) (by decide) ?_
    refine ct_sub [0, 1, 2] [(0, .ref (o + a0)), (1, .int p1), (2, .int p2)] rfl ?_
    exact kb_X12_number_28 C hr hlk  ka0 h
  · have h := h.2 hc1
    refine ct_aload_n C dX12_number_11 0 rfl rfl ?_
    refine gf_X12_7 C dX12_number_12 ka0 ?_
    have hk2 := ct_t12_1 ka0
    refine ct_aload_n C dX12_number_15 0 rfl rfl ?_
    refine gf_X12_155 C dX12_number_16 ka0 ?_
    refine ct_iald C dX12_number_19 hk2 h.1 ?_
    have h := h.2
    refine ct_bipush C dX12_number_20 (48 : Int32) (by decide) ?_
    refine ct_isub C dX12_number_22 ?_
    refine ct_goto C dX12_number_23 28 (by decide) ?_
    refine ct_sub [0, 1, 2] [(0, .ref (o + a0)), (1, .int p1), (2, .int p2)] rfl ?_
    exact kb_X12_number_28 C hr hlk  ka0 h
abbrev rm_X12_put : Room := { frames := 0, cells := 0, slots := 0, locals := 0 }
set_option maxHeartbeats 4000000 in
set_option maxRecDepth 100000 in
theorem c_X12_put (l : Launch) (D : va_G) (cy : Nat → ClassId) (o : Nat) {a0 : Nat} {p1 : Int32} {p2 : Int32} {Q : ct_M → Prop} {m : ct_M} (ka0 : ct_K 12 a0) (h : wp_X12_put a0 p1 p2 Q m) : Met l yX12_put (ct_ws yX12_put cX12_put 4 none) rm_X12_put (va_Pc [.ref (o + a0), .int p1, .int p2] (ct_P D cy o ct_NN m)) (va_Qv Q (ct_P D cy o ct_NN) (fun q => o ≤ q)) 0 0 (fun q => o ≤ q) := by
  refine ct_met l D cy o ct_NN m (by decide) (Nat.le_of_ble_eq_true rfl) (fun p e s mth args below meth c C hr hlk => ?_)
  refine ct_sub [0, 1, 2] [(0, .ref (o + a0)), (1, .int p1), (2, .int p2)] rfl ?_
  unfold wp_X12_put at h
  refine ct_bipush C dX12_put_0 (60 : Int32) (by decide) ?_
  refine ct_aload_n C dX12_put_2 0 rfl rfl ?_
  refine gf_X12_158 C dX12_put_3 ka0 ?_
  refine ct_imul C dX12_put_6 ?_
  refine ct_aload_n C dX12_put_7 0 rfl rfl ?_
  refine gf_X12_60 C dX12_put_8 ka0 ?_
  have hk1 := ct_t12_22 ka0
  refine ct_aload_n C dX12_put_11 0 rfl rfl ?_
  refine gf_X12_158 C dX12_put_12 ka0 ?_
  refine ct_iald C dX12_put_15 hk1 h.1 ?_
  have h := h.2
  refine ct_iadd C dX12_put_16 ?_
  refine ct_topi (fun x2 ex2 => ?_)
  have h := h x2 ex2
  refine ct_istore_n C dX12_put_17 [(3, .int x2), (0, .ref (o + a0)), (1, .int p1), (2, .int p2)] rfl (by decide) rfl ?_
  refine ct_aload_n C dX12_put_18 1 rfl rfl ?_
  refine gf_X12_63 C dX12_put_19 ka0 ?_
  have hk3 := ct_t12_23 ka0
  refine ct_iload_n C dX12_put_22 0 rfl rfl ?_
  refine ct_iload_n C dX12_put_23 2 rfl rfl ?_
  refine ct_iast C dX12_put_24 hk3 h.1 ?_
  have h := h.2
  refine ct_mem (fun m4 em4 => ?_)
  have h := h m4 em4
  refine ct_aload_n C dX12_put_25 1 rfl rfl ?_
  refine gf_X12_66 C dX12_put_26 ka0 ?_
  have hk5 := ct_t12_24 ka0
  refine ct_iload_n C dX12_put_29 0 rfl rfl ?_
  refine ct_iload_n C dX12_put_30 3 rfl rfl ?_
  refine ct_iast C dX12_put_31 hk5 h.1 ?_
  have h := h.2
  refine ct_mem (fun m6 em6 => ?_)
  have h := h m6 em6
  refine ct_aload_n C dX12_put_32 1 rfl rfl ?_
  refine gf_X12_69 C dX12_put_33 ka0 ?_
  have hk7 := ct_t12_25 ka0
  refine ct_iload_n C dX12_put_36 0 rfl rfl ?_
  refine ct_bipush C dX12_put_37 (-9 : Int32) (by decide) ?_
  refine ct_iast C dX12_put_39 hk7 h.1 ?_
  have h := h.2
  refine ct_mem (fun m8 em8 => ?_)
  have h := h m8 em8
  refine ct_aload_n C dX12_put_40 1 rfl rfl ?_
  refine gf_X12_72 C dX12_put_41 ka0 ?_
  have hk9 := ct_t12_26 ka0
  refine ct_iload_n C dX12_put_44 0 rfl rfl ?_
  refine ct_bipush C dX12_put_45 (-9 : Int32) (by decide) ?_
  refine ct_iast C dX12_put_47 hk9 h.1 ?_
  have h := h.2
  refine ct_mem (fun m10 em10 => ?_)
  have h := h m10 em10
  refine ct_aload_n C dX12_put_48 1 rfl rfl ?_
  refine gf_X12_60 C dX12_put_49 ka0 ?_
  refine ct_aload_n C dX12_put_52 1 rfl rfl ?_
  refine gf_X12_158 C dX12_put_53 ka0 ?_
  refine ct_dup2 C dX12_put_56 rfl rfl ?_
  refine ct_iald C dX12_put_57 hk1 h.1 ?_
  have h := h.2
  refine ct_iconst C dX12_put_58 (1 : Int32) (by decide) ?_
  refine ct_iadd C dX12_put_59 ?_
  refine ct_iast C dX12_put_60 hk1 h.1 ?_
  have h := h.2
  refine ct_mem (fun m11 em11 => ?_)
  have h := h m11 em11
  exact ct_vret C hr hlk dX12_put_61 h
abbrev rm_X12_isInner : Room := { frames := 0, cells := 0, slots := 0, locals := 0 }
set_option maxHeartbeats 4000000 in
set_option maxRecDepth 100000 in
theorem kb_X12_isInner_92 {p : Program} {l : Launch} {e : Env} {s : State} {mth : MethodId} {args : Array Value} {below : List Frame} {meth : Method} {c : Code} {D : va_G} {cy : Nat → ClassId} {o : Nat} {Q : Int32 → ct_M → Prop} {s0 : Int32} {s1 : Int32} {m : ct_M} (C : ct_Cx p s mth c cX12_isInner 3 args RX12 D cy) (hr : meth.sig.returnType = (some .boolean)) (hlk : meth.locks = false) (h : wb_X12_isInner_92 Q s0 s1 m) : ct_J p l e rm_X12_isInner s mth args below meth c 3 D cy o ct_NN 0 0 (MQ below (va_Qi Q (ct_P D cy o ct_NN) (fun q => o ≤ q)) args s 0 0 (fun q => o ≤ q)) m 92 [] [.int s0, .int s1] := by
  unfold wb_X12_isInner_92 at h
  refine ct_icmp_ne C dX12_isInner_92 99 (by decide) (fun hc1 => ?_) (fun hc1 => ?_)
  · have h := h.1 hc1
    refine ct_iconst C dX12_isInner_99 (0 : Int32) (by decide) ?_
    exact ct_zret C hr hlk dX12_isInner_100 (by decide) h
  · have h := h.2 hc1
    refine ct_iconst C dX12_isInner_95 (1 : Int32) (by decide) ?_
    refine ct_goto C dX12_isInner_96 100 (by decide) ?_
    exact ct_zret C hr hlk dX12_isInner_100 (by decide) h
set_option maxHeartbeats 4000000 in
set_option maxRecDepth 100000 in
theorem kb_X12_isInner_81 {p : Program} {l : Launch} {e : Env} {s : State} {mth : MethodId} {args : Array Value} {below : List Frame} {meth : Method} {c : Code} {D : va_G} {cy : Nat → ClassId} {o : Nat} {Q : Int32 → ct_M → Prop} {v1 : Int32} {s0 : Int32} {m : ct_M} (C : ct_Cx p s mth c cX12_isInner 3 args RX12 D cy) (hr : meth.sig.returnType = (some .boolean)) (hlk : meth.locks = false) (h : wb_X12_isInner_81 Q v1 s0 m) : ct_J p l e rm_X12_isInner s mth args below meth c 3 D cy o ct_NN 0 0 (MQ below (va_Qi Q (ct_P D cy o ct_NN) (fun q => o ≤ q)) args s 0 0 (fun q => o ≤ q)) m 81 [(1, .int v1)] [.int s0] := by
  unfold wb_X12_isInner_81 at h
  refine ct_iload_n C dX12_isInner_81 0 rfl rfl ?_
  refine ct_bipush C dX12_isInner_82 (124 : Int32) (by decide) ?_
  refine ct_icmp_ne C dX12_isInner_84 91 (by decide) (fun hc1 => ?_) (fun hc1 => ?_)
  · have h := h.1 hc1
    refine ct_iconst C dX12_isInner_91 (0 : Int32) (by decide) ?_
    refine ct_sub [] [] rfl ?_
    exact kb_X12_isInner_92 C hr hlk   h
  · have h := h.2 hc1
    refine ct_iconst C dX12_isInner_87 (1 : Int32) (by decide) ?_
    refine ct_goto C dX12_isInner_88 92 (by decide) ?_
    refine ct_sub [] [] rfl ?_
    exact kb_X12_isInner_92 C hr hlk   h
set_option maxHeartbeats 4000000 in
set_option maxRecDepth 100000 in
theorem c_X12_isInner (l : Launch) (D : va_G) (cy : Nat → ClassId) (o : Nat) {a0 : Nat} {p1 : Int32} {Q : Int32 → ct_M → Prop} {m : ct_M} (ka0 : ct_K 12 a0) (h : wp_X12_isInner a0 p1 Q m) : Met l yX12_isInner (ct_ws yX12_isInner cX12_isInner 3 (some .boolean)) rm_X12_isInner (va_Pc [.ref (o + a0), .int p1] (ct_P D cy o ct_NN m)) (va_Qi Q (ct_P D cy o ct_NN) (fun q => o ≤ q)) 0 0 (fun q => o ≤ q) := by
  refine ct_met l D cy o ct_NN m (by decide) (Nat.le_of_ble_eq_true rfl) (fun p e s mth args below meth c C hr hlk => ?_)
  refine ct_sub [0, 1] [(0, .ref (o + a0)), (1, .int p1)] rfl ?_
  unfold wp_X12_isInner at h
  refine ct_aload_n C dX12_isInner_0 0 rfl rfl ?_
  refine gf_X12_161 C dX12_isInner_1 ka0 ?_
  refine ct_if_ne C dX12_isInner_4 9 (by decide) (fun hc1 => ?_) (fun hc1 => ?_)
  · have h := h.1 hc1
    refine ct_bipush C dX12_isInner_9 (60 : Int32) (by decide) ?_
    refine ct_aload_n C dX12_isInner_11 0 rfl rfl ?_
    refine gf_X12_158 C dX12_isInner_12 ka0 ?_
    refine ct_imul C dX12_isInner_15 ?_
    refine ct_aload_n C dX12_isInner_16 0 rfl rfl ?_
    refine gf_X12_75 C dX12_isInner_17 ka0 ?_
    have hk2 := ct_t12_27 ka0
    refine ct_aload_n C dX12_isInner_20 0 rfl rfl ?_
    refine gf_X12_161 C dX12_isInner_21 ka0 ?_
    refine ct_iconst C dX12_isInner_24 (1 : Int32) (by decide) ?_
    refine ct_isub C dX12_isInner_25 ?_
    refine ct_iald C dX12_isInner_26 hk2 h.1 ?_
    have h := h.2
    refine ct_iadd C dX12_isInner_27 ?_
    refine ct_topi (fun x3 ex3 => ?_)
    have h := h x3 ex3
    refine ct_istore_n C dX12_isInner_28 [(2, .int x3), (0, .ref (o + a0)), (1, .int p1)] rfl (by decide) rfl ?_
    refine ct_iload_n C dX12_isInner_29 2 rfl rfl ?_
    refine ct_bipush C dX12_isInner_30 (125 : Int32) (by decide) ?_
    refine ct_icmp_ne C dX12_isInner_32 54 (by decide) (fun hc4 => ?_) (fun hc4 => ?_)
    · have h := h.1 hc4
      refine ct_aload_n C dX12_isInner_54 1 rfl rfl ?_
      refine gf_X12_63 C dX12_isInner_55 ka0 ?_
      have hk5 := ct_t12_23 ka0
      refine ct_iload_n C dX12_isInner_58 0 rfl rfl ?_
      refine ct_iald C dX12_isInner_59 hk5 h.1 ?_
      have h := h.2
      refine ct_bipush C dX12_isInner_60 (40 : Int32) (by decide) ?_
      refine ct_icmp_ne C dX12_isInner_62 99 (by decide) (fun hc6 => ?_) (fun hc6 => ?_)
      · have h := h.1 hc6
        refine ct_iconst C dX12_isInner_99 (0 : Int32) (by decide) ?_
        exact ct_zret C hr hlk dX12_isInner_100 (by decide) h
      · have h := h.2 hc6
        refine ct_aload_n C dX12_isInner_65 1 rfl rfl ?_
        refine gf_X12_69 C dX12_isInner_66 ka0 ?_
        have hk7 := ct_t12_25 ka0
        refine ct_iload_n C dX12_isInner_69 0 rfl rfl ?_
        refine ct_iald C dX12_isInner_70 hk7 h.1 ?_
        have h := h.2
        refine ct_bipush C dX12_isInner_71 (-9 : Int32) (by decide) ?_
        refine ct_icmp_ne C dX12_isInner_73 80 (by decide) (fun hc8 => ?_) (fun hc8 => ?_)
        · have h := h.1 hc8
          refine ct_iconst C dX12_isInner_80 (0 : Int32) (by decide) ?_
          refine ct_sub [2] [(1, .int p1)] rfl ?_
          exact kb_X12_isInner_81 C hr hlk   h
        · have h := h.2 hc8
          refine ct_iconst C dX12_isInner_76 (1 : Int32) (by decide) ?_
          refine ct_goto C dX12_isInner_77 81 (by decide) ?_
          refine ct_sub [2] [(1, .int p1)] rfl ?_
          exact kb_X12_isInner_81 C hr hlk   h
    · have h := h.2 hc4
      refine ct_aload_n C dX12_isInner_35 1 rfl rfl ?_
      refine gf_X12_63 C dX12_isInner_36 ka0 ?_
      have hk9 := ct_t12_23 ka0
      refine ct_iload_n C dX12_isInner_39 0 rfl rfl ?_
      refine ct_iald C dX12_isInner_40 hk9 h.1 ?_
      have h := h.2
      refine ct_bipush C dX12_isInner_41 (123 : Int32) (by decide) ?_
      refine ct_icmp_ne C dX12_isInner_43 50 (by decide) (fun hc10 => ?_) (fun hc10 => ?_)
      · have h := h.1 hc10
        refine ct_iconst C dX12_isInner_50 (0 : Int32) (by decide) ?_
        refine ct_goto C dX12_isInner_51 100 (by decide) ?_
        exact ct_zret C hr hlk dX12_isInner_100 (by decide) h
      · have h := h.2 hc10
        refine ct_iconst C dX12_isInner_46 (1 : Int32) (by decide) ?_
        refine ct_goto C dX12_isInner_47 100 (by decide) ?_
        exact ct_zret C hr hlk dX12_isInner_100 (by decide) h
  · have h := h.2 hc1
    refine ct_iconst C dX12_isInner_7 (0 : Int32) (by decide) ?_
    exact ct_zret C hr hlk dX12_isInner_8 (by decide) h
abbrev rm_X12_parseToken : Room := { frames := 2, cells := 0, slots := 0, locals := 48 }
set_option maxHeartbeats 4000000 in
set_option maxRecDepth 100000 in
theorem kb_X12_parseToken_341 {p : Program} {l : Launch} {e : Env} {s : State} {mth : MethodId} {args : Array Value} {below : List Frame} {meth : Method} {c : Code} {D : va_G} {cy : Nat → ClassId} {o : Nat} {Q : Int32 → ct_M → Prop} {v7 : Int32} {m : ct_M} (C : ct_Cx p s mth c cX12_parseToken 8 args RX12 D cy) (hr : meth.sig.returnType = (some .boolean)) (hlk : meth.locks = false) (h : wb_X12_parseToken_341 Q v7 m) : ct_J p l e rm_X12_parseToken s mth args below meth c 8 D cy o ct_NN 0 0 (MQ below (va_Qi Q (ct_P D cy o ct_NN) (fun q => o ≤ q)) args s 0 0 (fun q => o ≤ q)) m 341 [(7, .int v7)] [] := by
  unfold wb_X12_parseToken_341 at h
  refine ct_iload C dX12_parseToken_341 0 rfl ?_
  refine ct_bipush C dX12_parseToken_343 (-9 : Int32) (by decide) ?_
  refine ct_icmp_eq C dX12_parseToken_345 352 (by decide) (fun hc1 => ?_) (fun hc1 => ?_)
  · have h := h.1 hc1
    refine ct_iconst C dX12_parseToken_352 (0 : Int32) (by decide) ?_
    exact ct_zret C hr hlk dX12_parseToken_353 (by decide) h
  · have h := h.2 hc1
    refine ct_iconst C dX12_parseToken_348 (1 : Int32) (by decide) ?_
    refine ct_goto C dX12_parseToken_349 353 (by decide) ?_
    exact ct_zret C hr hlk dX12_parseToken_353 (by decide) h
set_option maxHeartbeats 4000000 in
set_option maxRecDepth 100000 in
theorem kb_X12_parseToken_322 {p : Program} {l : Launch} {e : Env} {s : State} {mth : MethodId} {args : Array Value} {below : List Frame} {meth : Method} {c : Code} {D : va_G} {cy : Nat → ClassId} {o : Nat} {Q : Int32 → ct_M → Prop} {v0 : Nat} {v1 : Int32} {s0 : Int32} {s1 : Int32} {s2 : Nat} {m : ct_M} (C : ct_Cx p s mth c cX12_parseToken 8 args RX12 D cy) (hr : meth.sig.returnType = (some .boolean)) (hlk : meth.locks = false) (kv0 : ct_K 12 v0) (ks2 : ct_K 12 s2) (h : wb_X12_parseToken_322 Q v0 v1 s0 s1 s2 m) : ct_J p l e rm_X12_parseToken s mth args below meth c 8 D cy o ct_NN 0 0 (MQ below (va_Qi Q (ct_P D cy o ct_NN) (fun q => o ≤ q)) args s 0 0 (fun q => o ≤ q)) m 322 [(0, .ref (o + v0)), (1, .int v1)] [.int s0, .int s1, .ref (o + s2)] := by
  unfold wb_X12_parseToken_322 at h
  refine ct_callVi (As := [.int s1, .int s0]) (T := TX12) C (c_X12_number l D cy o ks2 h) kv_X12_172 ks2.1 (ct_E12 ks2) rfl rfl rfl (Nat.le_of_ble_eq_true rfl) ⟨rfl, rfl, Nat.le_of_ble_eq_true rfl, Nat.le_of_ble_eq_true rfl⟩ ⟨Nat.zero_le _, Nat.zero_le _⟩ dX12_parseToken_322 (fun r2 m1 h => ?_)
  refine ct_istore C dX12_parseToken_325 [(7, .int r2), (0, .ref (o + v0)), (1, .int v1)] (by decide) rfl ?_
  refine ct_iload C dX12_parseToken_327 0 rfl ?_
  refine ct_bipush C dX12_parseToken_329 (-9 : Int32) (by decide) ?_
  refine ct_icmp_eq C dX12_parseToken_331 341 (by decide) (fun hc3 => ?_) (fun hc3 => ?_)
  · have h := h.1 hc3
    refine ct_sub [0] [(7, .int r2)] rfl ?_
    exact kb_X12_parseToken_341 C hr hlk   h
  · have h := h.2 hc3
    refine ct_aload_n C dX12_parseToken_334 1 rfl rfl ?_
    refine ct_iload_n C dX12_parseToken_335 2 rfl rfl ?_
    refine ct_iload C dX12_parseToken_336 0 rfl ?_
    refine ct_callVv (As := [.int v1, .int r2]) (T := TX12) C (c_X12_put l D cy o kv0 h) kv_X12_164 kv0.1 (ct_E12 kv0) rfl rfl rfl (Nat.le_of_ble_eq_true rfl) ⟨rfl, rfl, Nat.le_of_ble_eq_true rfl, Nat.le_of_ble_eq_true rfl⟩ ⟨Nat.zero_le _, Nat.zero_le _⟩ dX12_parseToken_338 (fun m4 h => ?_)
    refine ct_sub [0] [(7, .int r2)] rfl ?_
    exact kb_X12_parseToken_341 C hr hlk   h
set_option maxHeartbeats 4000000 in
set_option maxRecDepth 100000 in
theorem kb_X12_parseToken_299 {p : Program} {l : Launch} {e : Env} {s : State} {mth : MethodId} {args : Array Value} {below : List Frame} {meth : Method} {c : Code} {D : va_G} {cy : Nat → ClassId} {o : Nat} {Q : Int32 → ct_M → Prop} {v0 : Nat} {v1 : Int32} {v6 : Int32} {m : ct_M} (C : ct_Cx p s mth c cX12_parseToken 8 args RX12 D cy) (hr : meth.sig.returnType = (some .boolean)) (hlk : meth.locks = false) (kv0 : ct_K 12 v0) (h : wb_X12_parseToken_299 Q v0 v1 v6 m) : ct_J p l e rm_X12_parseToken s mth args below meth c 8 D cy o ct_NN 0 0 (MQ below (va_Qi Q (ct_P D cy o ct_NN) (fun q => o ≤ q)) args s 0 0 (fun q => o ≤ q)) m 299 [(0, .ref (o + v0)), (1, .int v1), (6, .int v6)] [] := by
  unfold wb_X12_parseToken_299 at h
  refine ct_aload_n C dX12_parseToken_299 0 rfl rfl ?_
  refine ct_dup C dX12_parseToken_300 rfl ?_
  refine gf_X12_155 C dX12_parseToken_301 kv0 ?_
  refine ct_iconst C dX12_parseToken_304 (1 : Int32) (by decide) ?_
  refine ct_iadd C dX12_parseToken_305 ?_
  refine pf_X12_155 C dX12_parseToken_306 kv0 ?_
  refine ct_mem (fun m1 em1 => ?_)
  have h := h m1 em1
  refine ct_aload_n C dX12_parseToken_309 0 rfl rfl ?_
  refine ct_iconst C dX12_parseToken_310 (0 : Int32) (by decide) ?_
  refine ct_iload C dX12_parseToken_311 2 rfl ?_
  refine ct_if_eq C dX12_parseToken_313 320 (by decide) (fun hc2 => ?_) (fun hc2 => ?_)
  · have h := h.1 hc2
    refine ct_bipush C dX12_parseToken_320 (9 : Int32) (by decide) ?_
    refine ct_sub [0, 1] [(0, .ref (o + v0)), (1, .int v1)] rfl ?_
    exact kb_X12_parseToken_322 C hr hlk  kv0 kv0 h
  · have h := h.2 hc2
    refine ct_iconst C dX12_parseToken_316 (5 : Int32) (by decide) ?_
    refine ct_goto C dX12_parseToken_317 322 (by decide) ?_
    refine ct_sub [0, 1] [(0, .ref (o + v0)), (1, .int v1)] rfl ?_
    exact kb_X12_parseToken_322 C hr hlk  kv0 kv0 h
set_option maxHeartbeats 4000000 in
set_option maxRecDepth 100000 in
theorem kb_X12_parseToken_272 {p : Program} {l : Launch} {e : Env} {s : State} {mth : MethodId} {args : Array Value} {below : List Frame} {meth : Method} {c : Code} {D : va_G} {cy : Nat → ClassId} {o : Nat} {Q : Int32 → ct_M → Prop} {v0 : Nat} {v1 : Int32} {s0 : Int32} {m : ct_M} (C : ct_Cx p s mth c cX12_parseToken 8 args RX12 D cy) (hr : meth.sig.returnType = (some .boolean)) (hlk : meth.locks = false) (kv0 : ct_K 12 v0) (h : wb_X12_parseToken_272 Q v0 v1 s0 m) : ct_J p l e rm_X12_parseToken s mth args below meth c 8 D cy o ct_NN 0 0 (MQ below (va_Qi Q (ct_P D cy o ct_NN) (fun q => o ≤ q)) args s 0 0 (fun q => o ≤ q)) m 272 [(0, .ref (o + v0)), (1, .int v1)] [.int s0] := by
  unfold wb_X12_parseToken_272 at h
  refine ct_istore C dX12_parseToken_272 [(6, .int s0), (0, .ref (o + v0)), (1, .int v1)] (by decide) rfl ?_
  refine ct_iload C dX12_parseToken_274 0 rfl ?_
  refine ct_if_ne C dX12_parseToken_276 299 (by decide) (fun hc1 => ?_) (fun hc1 => ?_)
  · have h := h.1 hc1
    refine ct_sub [1, 2, 0] [(0, .ref (o + v0)), (1, .int v1), (6, .int s0)] rfl ?_
    exact kb_X12_parseToken_299 C hr hlk  kv0 h
  · have h := h.2 hc1
    refine ct_iload_n C dX12_parseToken_279 2 rfl rfl ?_
    refine ct_bipush C dX12_parseToken_280 (43 : Int32) (by decide) ?_
    refine ct_icmp_eq C dX12_parseToken_282 299 (by decide) (fun hc2 => ?_) (fun hc2 => ?_)
    · have h := h.1 hc2
      refine ct_sub [1, 2, 0] [(0, .ref (o + v0)), (1, .int v1), (6, .int s0)] rfl ?_
      exact kb_X12_parseToken_299 C hr hlk  kv0 h
    · have h := h.2 hc2
      refine ct_iload_n C dX12_parseToken_285 2 rfl rfl ?_
      refine ct_bipush C dX12_parseToken_286 (45 : Int32) (by decide) ?_
      refine ct_icmp_eq C dX12_parseToken_288 299 (by decide) (fun hc3 => ?_) (fun hc3 => ?_)
      · have h := h.1 hc3
        refine ct_sub [1, 2, 0] [(0, .ref (o + v0)), (1, .int v1), (6, .int s0)] rfl ?_
        exact kb_X12_parseToken_299 C hr hlk  kv0 h
      · have h := h.2 hc3
        refine ct_iload_n C dX12_parseToken_291 2 rfl rfl ?_
        refine ct_bipush C dX12_parseToken_292 (63 : Int32) (by decide) ?_
        refine ct_icmp_eq C dX12_parseToken_294 299 (by decide) (fun hc4 => ?_) (fun hc4 => ?_)
        · have h := h.1 hc4
          refine ct_sub [1, 2, 0] [(0, .ref (o + v0)), (1, .int v1), (6, .int s0)] rfl ?_
          exact kb_X12_parseToken_299 C hr hlk  kv0 h
        · have h := h.2 hc4
          refine ct_iconst C dX12_parseToken_297 (0 : Int32) (by decide) ?_
          exact ct_zret C hr hlk dX12_parseToken_298 (by decide) h
set_option maxHeartbeats 4000000 in
set_option maxRecDepth 100000 in
theorem kb_X12_parseToken_267 {p : Program} {l : Launch} {e : Env} {s : State} {mth : MethodId} {args : Array Value} {below : List Frame} {meth : Method} {c : Code} {D : va_G} {cy : Nat → ClassId} {o : Nat} {Q : Int32 → ct_M → Prop} {v0 : Nat} {v1 : Int32} {m : ct_M} (C : ct_Cx p s mth c cX12_parseToken 8 args RX12 D cy) (hr : meth.sig.returnType = (some .boolean)) (hlk : meth.locks = false) (kv0 : ct_K 12 v0) (h : wb_X12_parseToken_267 Q v0 v1 m) : ct_J p l e rm_X12_parseToken s mth args below meth c 8 D cy o ct_NN 0 0 (MQ below (va_Qi Q (ct_P D cy o ct_NN) (fun q => o ≤ q)) args s 0 0 (fun q => o ≤ q)) m 267 [(0, .ref (o + v0)), (1, .int v1)] [] := by
  unfold wb_X12_parseToken_267 at h
  refine ct_iconst C dX12_parseToken_267 (1 : Int32) (by decide) ?_
  refine ct_goto C dX12_parseToken_268 272 (by decide) ?_
  refine ct_sub [0, 1] [(0, .ref (o + v0)), (1, .int v1)] rfl ?_
  exact kb_X12_parseToken_272 C hr hlk  kv0 h
set_option maxHeartbeats 4000000 in
set_option maxRecDepth 100000 in
theorem kb_X12_parseToken_255 {p : Program} {l : Launch} {e : Env} {s : State} {mth : MethodId} {args : Array Value} {below : List Frame} {meth : Method} {c : Code} {D : va_G} {cy : Nat → ClassId} {o : Nat} {Q : Int32 → ct_M → Prop} {v0 : Nat} {v1 : Int32} {m : ct_M} (C : ct_Cx p s mth c cX12_parseToken 8 args RX12 D cy) (hr : meth.sig.returnType = (some .boolean)) (hlk : meth.locks = false) (kv0 : ct_K 12 v0) (h : wb_X12_parseToken_255 Q v0 v1 m) : ct_J p l e rm_X12_parseToken s mth args below meth c 8 D cy o ct_NN 0 0 (MQ below (va_Qi Q (ct_P D cy o ct_NN) (fun q => o ≤ q)) args s 0 0 (fun q => o ≤ q)) m 255 [(0, .ref (o + v0)), (1, .int v1)] [] := by
  unfold wb_X12_parseToken_255 at h
  refine ct_iload_n C dX12_parseToken_255 1 rfl rfl ?_
  refine ct_bipush C dX12_parseToken_256 (114 : Int32) (by decide) ?_
  refine ct_icmp_eq C dX12_parseToken_258 267 (by decide) (fun hc1 => ?_) (fun hc1 => ?_)
  · have h := h.1 hc1
    refine ct_sub [0, 1] [(0, .ref (o + v0)), (1, .int v1)] rfl ?_
    exact kb_X12_parseToken_267 C hr hlk  kv0 h
  · have h := h.2 hc1
    refine ct_iload_n C dX12_parseToken_261 1 rfl rfl ?_
    refine ct_bipush C dX12_parseToken_262 (119 : Int32) (by decide) ?_
    refine ct_icmp_ne C dX12_parseToken_264 271 (by decide) (fun hc2 => ?_) (fun hc2 => ?_)
    · have h := h.1 hc2
      refine ct_iconst C dX12_parseToken_271 (0 : Int32) (by decide) ?_
      refine ct_sub [0, 1] [(0, .ref (o + v0)), (1, .int v1)] rfl ?_
      exact kb_X12_parseToken_272 C hr hlk  kv0 h
    · have h := h.2 hc2
      refine ct_sub [0, 1] [(0, .ref (o + v0)), (1, .int v1)] rfl ?_
      exact kb_X12_parseToken_267 C hr hlk  kv0 h
set_option maxHeartbeats 4000000 in
set_option maxRecDepth 100000 in
theorem kb_X12_parseToken_153 {p : Program} {l : Launch} {e : Env} {s : State} {mth : MethodId} {args : Array Value} {below : List Frame} {meth : Method} {c : Code} {D : va_G} {cy : Nat → ClassId} {o : Nat} {Q : Int32 → ct_M → Prop} {v0 : Nat} {v1 : Int32} {v2 : Int32} {v3 : Int32} {v5 : Int32} {m : ct_M} (C : ct_Cx p s mth c cX12_parseToken 8 args RX12 D cy) (hr : meth.sig.returnType = (some .boolean)) (hlk : meth.locks = false) (kv0 : ct_K 12 v0) (h : wb_X12_parseToken_153 Q v0 v1 v2 v3 v5 m) : ct_J p l e rm_X12_parseToken s mth args below meth c 8 D cy o ct_NN 0 0 (MQ below (va_Qi Q (ct_P D cy o ct_NN) (fun q => o ≤ q)) args s 0 0 (fun q => o ≤ q)) m 153 [(0, .ref (o + v0)), (1, .int v1), (2, .int v2), (3, .int v3), (5, .int v5)] [] := by
  unfold wb_X12_parseToken_153 at h
  refine ct_iload C dX12_parseToken_153 4 rfl ?_
  refine ct_if_eq C dX12_parseToken_155 255 (by decide) (fun hc1 => ?_) (fun hc1 => ?_)
  · have h := h.1 hc1
    refine ct_sub [0, 1] [(0, .ref (o + v0)), (1, .int v1)] rfl ?_
    exact kb_X12_parseToken_255 C hr hlk  kv0 h
  · have h := h.2 hc1
    refine ct_aload_n C dX12_parseToken_158 0 rfl rfl ?_
    refine ct_iload_n C dX12_parseToken_159 1 rfl rfl ?_
    refine ct_callVi (As := [.int v1]) (T := TX12) C (c_X12_isInner l D cy o kv0 h) kv_X12_168 kv0.1 (ct_E12 kv0) rfl rfl rfl (Nat.le_of_ble_eq_true rfl) ⟨rfl, rfl, Nat.le_of_ble_eq_true rfl, Nat.le_of_ble_eq_true rfl⟩ ⟨Nat.zero_le _, Nat.zero_le _⟩ dX12_parseToken_160 (fun r3 m2 h => ?_)
    refine ct_if_eq C dX12_parseToken_163 255 (by decide) (fun hc4 => ?_) (fun hc4 => ?_)
    · have h := h.1 hc4
      refine ct_sub [0, 1] [(0, .ref (o + v0)), (1, .int v1)] rfl ?_
      exact kb_X12_parseToken_255 C hr hlk  kv0 h
    · have h := h.2 hc4
      refine ct_aload_n C dX12_parseToken_166 0 rfl rfl ?_
      refine ct_dup C dX12_parseToken_167 rfl ?_
      refine gf_X12_155 C dX12_parseToken_168 kv0 ?_
      refine ct_iconst C dX12_parseToken_171 (1 : Int32) (by decide) ?_
      refine ct_iadd C dX12_parseToken_172 ?_
      refine pf_X12_155 C dX12_parseToken_173 kv0 ?_
      refine ct_mem (fun m5 em5 => ?_)
      have h := h m5 em5
      refine ct_aload_n C dX12_parseToken_176 0 rfl rfl ?_
      refine ct_iload_n C dX12_parseToken_177 1 rfl rfl ?_
      refine ct_iconst C dX12_parseToken_178 (0 : Int32) (by decide) ?_
      refine ct_callVv (As := [.int v1, .int (0 : Int32)]) (T := TX12) C (c_X12_put l D cy o kv0 h) kv_X12_164 kv0.1 (ct_E12 kv0) rfl rfl rfl (Nat.le_of_ble_eq_true rfl) ⟨rfl, rfl, Nat.le_of_ble_eq_true rfl, Nat.le_of_ble_eq_true rfl⟩ ⟨Nat.zero_le _, Nat.zero_le _⟩ dX12_parseToken_179 (fun m6 h => ?_)
      refine ct_iload_n C dX12_parseToken_182 3 rfl rfl ?_
      refine ct_aload_n C dX12_parseToken_183 0 rfl rfl ?_
      refine gf_X12_75 C dX12_parseToken_184 kv0 ?_
      have hk7 := ct_t12_27 kv0
      refine ct_aload_n C dX12_parseToken_187 0 rfl rfl ?_
      refine gf_X12_161 C dX12_parseToken_188 kv0 ?_
      refine ct_iconst C dX12_parseToken_191 (1 : Int32) (by decide) ?_
      refine ct_isub C dX12_parseToken_192 ?_
      refine ct_iald C dX12_parseToken_193 hk7 h.1 ?_
      have h := h.2
      refine ct_iadd C dX12_parseToken_194 ?_
      refine ct_topi (fun x8 ex8 => ?_)
      have h := h x8 ex8
      refine ct_istore C dX12_parseToken_195 [(6, .int x8), (0, .ref (o + v0)), (1, .int v1), (2, .int v2), (3, .int v3), (5, .int v5)] (by decide) rfl ?_
      refine ct_iload_n C dX12_parseToken_197 2 rfl rfl ?_
      refine ct_bipush C dX12_parseToken_198 (124 : Int32) (by decide) ?_
      refine ct_icmp_ne C dX12_parseToken_200 214 (by decide) (fun hc9 => ?_) (fun hc9 => ?_)
      · have h := h.1 hc9
        refine ct_aload_n C dX12_parseToken_214 1 rfl rfl ?_
        refine ct_dup C dX12_parseToken_215 rfl ?_
        refine gf_X12_161 C dX12_parseToken_216 kv0 ?_
        refine ct_iconst C dX12_parseToken_219 (1 : Int32) (by decide) ?_
        refine ct_isub C dX12_parseToken_220 ?_
        refine pf_X12_161 C dX12_parseToken_221 kv0 ?_
        refine ct_mem (fun m10 em10 => ?_)
        have h := h m10 em10
        refine ct_aload_n C dX12_parseToken_224 1 rfl rfl ?_
        refine gf_X12_72 C dX12_parseToken_225 kv0 ?_
        have hk11 := ct_t12_26 kv0
        refine ct_iload C dX12_parseToken_228 0 rfl ?_
        refine ct_iload_n C dX12_parseToken_230 3 rfl rfl ?_
        refine ct_iast C dX12_parseToken_231 hk11 h.1 ?_
        have h := h.2
        refine ct_mem (fun m12 em12 => ?_)
        have h := h m12 em12
        refine ct_iload_n C dX12_parseToken_232 2 rfl rfl ?_
        refine ct_bipush C dX12_parseToken_233 (41 : Int32) (by decide) ?_
        refine ct_icmp_ne C dX12_parseToken_235 253 (by decide) (fun hc13 => ?_) (fun hc13 => ?_)
        · have h := h.1 hc13
          refine ct_iconst C dX12_parseToken_253 (1 : Int32) (by decide) ?_
          exact ct_zret C hr hlk dX12_parseToken_254 (by decide) h
        · have h := h.2 hc13
          refine ct_aload_n C dX12_parseToken_238 1 rfl rfl ?_
          refine gf_X12_72 C dX12_parseToken_239 kv0 ?_
          refine ct_iload_n C dX12_parseToken_242 4 rfl rfl ?_
          refine ct_aload_n C dX12_parseToken_243 1 rfl rfl ?_
          refine gf_X12_69 C dX12_parseToken_244 kv0 ?_
          have hk14 := ct_t12_25 kv0
          refine ct_iload C dX12_parseToken_247 0 rfl ?_
          refine ct_iald C dX12_parseToken_249 hk14 h.1 ?_
          have h := h.2
          refine ct_iadd C dX12_parseToken_250 ?_
          refine ct_iload_n C dX12_parseToken_251 3 rfl rfl ?_
          refine ct_iast C dX12_parseToken_252 hk11 h.1 ?_
          have h := h.2
          refine ct_mem (fun m15 em15 => ?_)
          have h := h m15 em15
          refine ct_iconst C dX12_parseToken_253 (1 : Int32) (by decide) ?_
          exact ct_zret C hr hlk dX12_parseToken_254 (by decide) h
      · have h := h.2 hc9
        refine ct_aload_n C dX12_parseToken_203 1 rfl rfl ?_
        refine gf_X12_69 C dX12_parseToken_204 kv0 ?_
        have hk16 := ct_t12_25 kv0
        refine ct_iload C dX12_parseToken_207 0 rfl ?_
        refine ct_iload_n C dX12_parseToken_209 3 rfl rfl ?_
        refine ct_iast C dX12_parseToken_210 hk16 h.1 ?_
        have h := h.2
        refine ct_mem (fun m17 em17 => ?_)
        have h := h m17 em17
        refine ct_goto C dX12_parseToken_211 253 (by decide) ?_
        refine ct_iconst C dX12_parseToken_253 (1 : Int32) (by decide) ?_
        exact ct_zret C hr hlk dX12_parseToken_254 (by decide) h
set_option maxHeartbeats 4000000 in
set_option maxRecDepth 100000 in
theorem kb_X12_parseToken_84 {p : Program} {l : Launch} {e : Env} {s : State} {mth : MethodId} {args : Array Value} {below : List Frame} {meth : Method} {c : Code} {D : va_G} {cy : Nat → ClassId} {o : Nat} {Q : Int32 → ct_M → Prop} {v0 : Nat} {v1 : Int32} {m : ct_M} (C : ct_Cx p s mth c cX12_parseToken 8 args RX12 D cy) (hr : meth.sig.returnType = (some .boolean)) (hlk : meth.locks = false) (kv0 : ct_K 12 v0) (h : wb_X12_parseToken_84 Q v0 v1 m) : ct_J p l e rm_X12_parseToken s mth args below meth c 8 D cy o ct_NN 0 0 (MQ below (va_Qi Q (ct_P D cy o ct_NN) (fun q => o ≤ q)) args s 0 0 (fun q => o ≤ q)) m 84 [(0, .ref (o + v0)), (1, .int v1)] [] := by
  unfold wb_X12_parseToken_84 at h
  refine ct_aload_n C dX12_parseToken_84 0 rfl rfl ?_
  refine ct_dup C dX12_parseToken_85 rfl ?_
  refine gf_X12_155 C dX12_parseToken_86 kv0 ?_
  refine ct_iconst C dX12_parseToken_89 (1 : Int32) (by decide) ?_
  refine ct_iadd C dX12_parseToken_90 ?_
  refine pf_X12_155 C dX12_parseToken_91 kv0 ?_
  refine ct_mem (fun m1 em1 => ?_)
  have h := h m1 em1
  refine ct_aload_n C dX12_parseToken_94 0 rfl rfl ?_
  refine ct_iload_n C dX12_parseToken_95 1 rfl rfl ?_
  refine ct_iconst C dX12_parseToken_96 (0 : Int32) (by decide) ?_
  refine ct_callVv (As := [.int v1, .int (0 : Int32)]) (T := TX12) C (c_X12_put l D cy o kv0 h) kv_X12_164 kv0.1 (ct_E12 kv0) rfl rfl rfl (Nat.le_of_ble_eq_true rfl) ⟨rfl, rfl, Nat.le_of_ble_eq_true rfl, Nat.le_of_ble_eq_true rfl⟩ ⟨Nat.zero_le _, Nat.zero_le _⟩ dX12_parseToken_97 (fun m2 h => ?_)
  refine ct_iconst C dX12_parseToken_100 (1 : Int32) (by decide) ?_
  exact ct_zret C hr hlk dX12_parseToken_101 (by decide) h
set_option maxHeartbeats 4000000 in
set_option maxRecDepth 100000 in
theorem kb_X12_parseToken_70 {p : Program} {l : Launch} {e : Env} {s : State} {mth : MethodId} {args : Array Value} {below : List Frame} {meth : Method} {c : Code} {D : va_G} {cy : Nat → ClassId} {o : Nat} {Q : Int32 → ct_M → Prop} {v0 : Nat} {v1 : Int32} {v2 : Int32} {v3 : Int32} {v4 : Int32} {s0 : Int32} {m : ct_M} (C : ct_Cx p s mth c cX12_parseToken 8 args RX12 D cy) (hr : meth.sig.returnType = (some .boolean)) (hlk : meth.locks = false) (kv0 : ct_K 12 v0) (h : wb_X12_parseToken_70 Q v0 v1 v2 v3 v4 s0 m) : ct_J p l e rm_X12_parseToken s mth args below meth c 8 D cy o ct_NN 0 0 (MQ below (va_Qi Q (ct_P D cy o ct_NN) (fun q => o ≤ q)) args s 0 0 (fun q => o ≤ q)) m 70 [(0, .ref (o + v0)), (1, .int v1), (2, .int v2), (3, .int v3), (4, .int v4)] [.int s0] := by
  unfold wb_X12_parseToken_70 at h
  refine ct_istore C dX12_parseToken_70 [(5, .int s0), (0, .ref (o + v0)), (1, .int v1), (2, .int v2), (3, .int v3), (4, .int v4)] (by decide) rfl ?_
  refine ct_iload_n C dX12_parseToken_72 2 rfl rfl ?_
  refine ct_bipush C dX12_parseToken_73 (33 : Int32) (by decide) ?_
  refine ct_icmp_eq C dX12_parseToken_75 84 (by decide) (fun hc1 => ?_) (fun hc1 => ?_)
  · have h := h.1 hc1
    refine ct_sub [1, 2] [(0, .ref (o + v0)), (1, .int v1)] rfl ?_
    exact kb_X12_parseToken_84 C hr hlk  kv0 h
  · have h := h.2 hc1
    refine ct_iload_n C dX12_parseToken_78 2 rfl rfl ?_
    refine ct_bipush C dX12_parseToken_79 (120 : Int32) (by decide) ?_
    refine ct_icmp_ne C dX12_parseToken_81 102 (by decide) (fun hc2 => ?_) (fun hc2 => ?_)
    · have h := h.1 hc2
      refine ct_iload C dX12_parseToken_102 5 rfl ?_
      refine ct_if_eq C dX12_parseToken_104 153 (by decide) (fun hc3 => ?_) (fun hc3 => ?_)
      · have h := h.1 hc3
        refine ct_sub [1, 2, 3, 4, 0] [(0, .ref (o + v0)), (1, .int v1), (2, .int v2), (3, .int v3), (5, .int s0)] rfl ?_
        exact kb_X12_parseToken_153 C hr hlk  kv0 h
      · have h := h.2 hc3
        refine ct_aload_n C dX12_parseToken_107 1 rfl rfl ?_
        refine gf_X12_161 C dX12_parseToken_108 kv0 ?_
        refine ct_iconst C dX12_parseToken_111 (3 : Int32) (by decide) ?_
        refine ct_icmp_ge C dX12_parseToken_112 153 (by decide) (fun hc4 => ?_) (fun hc4 => ?_)
        · have h := h.1 hc4
          refine ct_sub [1, 2, 3, 4, 0] [(0, .ref (o + v0)), (1, .int v1), (2, .int v2), (3, .int v3), (5, .int s0)] rfl ?_
          exact kb_X12_parseToken_153 C hr hlk  kv0 h
        · have h := h.2 hc4
          refine ct_aload_n C dX12_parseToken_115 1 rfl rfl ?_
          refine ct_dup C dX12_parseToken_116 rfl ?_
          refine gf_X12_155 C dX12_parseToken_117 kv0 ?_
          refine ct_iconst C dX12_parseToken_120 (1 : Int32) (by decide) ?_
          refine ct_iadd C dX12_parseToken_121 ?_
          refine pf_X12_155 C dX12_parseToken_122 kv0 ?_
          refine ct_mem (fun m5 em5 => ?_)
          have h := h m5 em5
          refine ct_aload_n C dX12_parseToken_125 1 rfl rfl ?_
          refine ct_iload_n C dX12_parseToken_126 2 rfl rfl ?_
          refine ct_iconst C dX12_parseToken_127 (0 : Int32) (by decide) ?_
          refine ct_callVv (As := [.int v1, .int (0 : Int32)]) (T := TX12) C (c_X12_put l D cy o kv0 h) kv_X12_164 kv0.1 (ct_E12 kv0) rfl rfl rfl (Nat.le_of_ble_eq_true rfl) ⟨rfl, rfl, Nat.le_of_ble_eq_true rfl, Nat.le_of_ble_eq_true rfl⟩ ⟨Nat.zero_le _, Nat.zero_le _⟩ dX12_parseToken_128 (fun m6 h => ?_)
          refine ct_aload_n C dX12_parseToken_131 1 rfl rfl ?_
          refine gf_X12_75 C dX12_parseToken_132 kv0 ?_
          have hk7 := ct_t12_27 kv0
          refine ct_aload_n C dX12_parseToken_135 1 rfl rfl ?_
          refine gf_X12_161 C dX12_parseToken_136 kv0 ?_
          refine ct_iload_n C dX12_parseToken_139 3 rfl rfl ?_
          refine ct_iast C dX12_parseToken_140 hk7 h.1 ?_
          have h := h.2
          refine ct_mem (fun m8 em8 => ?_)
          have h := h m8 em8
          refine ct_aload_n C dX12_parseToken_141 1 rfl rfl ?_
          refine ct_dup C dX12_parseToken_142 rfl ?_
          refine gf_X12_161 C dX12_parseToken_143 kv0 ?_
          refine ct_iconst C dX12_parseToken_146 (1 : Int32) (by decide) ?_
          refine ct_iadd C dX12_parseToken_147 ?_
          refine pf_X12_161 C dX12_parseToken_148 kv0 ?_
          refine ct_mem (fun m9 em9 => ?_)
          have h := h m9 em9
          refine ct_iconst C dX12_parseToken_151 (1 : Int32) (by decide) ?_
          exact ct_zret C hr hlk dX12_parseToken_152 (by decide) h
    · have h := h.2 hc2
      refine ct_sub [1, 2] [(0, .ref (o + v0)), (1, .int v1)] rfl ?_
      exact kb_X12_parseToken_84 C hr hlk  kv0 h
set_option maxHeartbeats 4000000 in
set_option maxRecDepth 100000 in
theorem kb_X12_parseToken_65 {p : Program} {l : Launch} {e : Env} {s : State} {mth : MethodId} {args : Array Value} {below : List Frame} {meth : Method} {c : Code} {D : va_G} {cy : Nat → ClassId} {o : Nat} {Q : Int32 → ct_M → Prop} {v0 : Nat} {v1 : Int32} {v2 : Int32} {v3 : Int32} {v4 : Int32} {m : ct_M} (C : ct_Cx p s mth c cX12_parseToken 8 args RX12 D cy) (hr : meth.sig.returnType = (some .boolean)) (hlk : meth.locks = false) (kv0 : ct_K 12 v0) (h : wb_X12_parseToken_65 Q v0 v1 v2 v3 v4 m) : ct_J p l e rm_X12_parseToken s mth args below meth c 8 D cy o ct_NN 0 0 (MQ below (va_Qi Q (ct_P D cy o ct_NN) (fun q => o ≤ q)) args s 0 0 (fun q => o ≤ q)) m 65 [(0, .ref (o + v0)), (1, .int v1), (2, .int v2), (3, .int v3), (4, .int v4)] [] := by
  unfold wb_X12_parseToken_65 at h
  refine ct_iconst C dX12_parseToken_65 (1 : Int32) (by decide) ?_
  refine ct_goto C dX12_parseToken_66 70 (by decide) ?_
  refine ct_sub [0, 1, 2, 3, 4] [(0, .ref (o + v0)), (1, .int v1), (2, .int v2), (3, .int v3), (4, .int v4)] rfl ?_
  exact kb_X12_parseToken_70 C hr hlk  kv0 h
set_option maxHeartbeats 4000000 in
set_option maxRecDepth 100000 in
theorem kb_X12_parseToken_45 {p : Program} {l : Launch} {e : Env} {s : State} {mth : MethodId} {args : Array Value} {below : List Frame} {meth : Method} {c : Code} {D : va_G} {cy : Nat → ClassId} {o : Nat} {Q : Int32 → ct_M → Prop} {v0 : Nat} {v1 : Int32} {v2 : Int32} {v3 : Int32} {s0 : Int32} {m : ct_M} (C : ct_Cx p s mth c cX12_parseToken 8 args RX12 D cy) (hr : meth.sig.returnType = (some .boolean)) (hlk : meth.locks = false) (kv0 : ct_K 12 v0) (h : wb_X12_parseToken_45 Q v0 v1 v2 v3 s0 m) : ct_J p l e rm_X12_parseToken s mth args below meth c 8 D cy o ct_NN 0 0 (MQ below (va_Qi Q (ct_P D cy o ct_NN) (fun q => o ≤ q)) args s 0 0 (fun q => o ≤ q)) m 45 [(0, .ref (o + v0)), (1, .int v1), (2, .int v2), (3, .int v3)] [.int s0] := by
  unfold wb_X12_parseToken_45 at h
  refine ct_istore C dX12_parseToken_45 [(4, .int s0), (0, .ref (o + v0)), (1, .int v1), (2, .int v2), (3, .int v3)] (by decide) rfl ?_
  refine ct_iload_n C dX12_parseToken_47 2 rfl rfl ?_
  refine ct_bipush C dX12_parseToken_48 (124 : Int32) (by decide) ?_
  refine ct_icmp_eq C dX12_parseToken_50 65 (by decide) (fun hc1 => ?_) (fun hc1 => ?_)
  · have h := h.1 hc1
    refine ct_sub [1, 2, 3, 4, 0] [(0, .ref (o + v0)), (1, .int v1), (2, .int v2), (3, .int v3), (4, .int s0)] rfl ?_
    exact kb_X12_parseToken_65 C hr hlk  kv0 h
  · have h := h.2 hc1
    refine ct_iload_n C dX12_parseToken_53 2 rfl rfl ?_
    refine ct_bipush C dX12_parseToken_54 (41 : Int32) (by decide) ?_
    refine ct_icmp_eq C dX12_parseToken_56 65 (by decide) (fun hc2 => ?_) (fun hc2 => ?_)
    · have h := h.1 hc2
      refine ct_sub [1, 2, 3, 4, 0] [(0, .ref (o + v0)), (1, .int v1), (2, .int v2), (3, .int v3), (4, .int s0)] rfl ?_
      exact kb_X12_parseToken_65 C hr hlk  kv0 h
    · have h := h.2 hc2
      refine ct_iload_n C dX12_parseToken_59 2 rfl rfl ?_
      refine ct_bipush C dX12_parseToken_60 (125 : Int32) (by decide) ?_
      refine ct_icmp_ne C dX12_parseToken_62 69 (by decide) (fun hc3 => ?_) (fun hc3 => ?_)
      · have h := h.1 hc3
        refine ct_iconst C dX12_parseToken_69 (0 : Int32) (by decide) ?_
        refine ct_sub [1, 2, 3, 4, 0] [(0, .ref (o + v0)), (1, .int v1), (2, .int v2), (3, .int v3), (4, .int s0)] rfl ?_
        exact kb_X12_parseToken_70 C hr hlk  kv0 h
      · have h := h.2 hc3
        refine ct_sub [1, 2, 3, 4, 0] [(0, .ref (o + v0)), (1, .int v1), (2, .int v2), (3, .int v3), (4, .int s0)] rfl ?_
        exact kb_X12_parseToken_65 C hr hlk  kv0 h
set_option maxHeartbeats 4000000 in
set_option maxRecDepth 100000 in
theorem kb_X12_parseToken_40 {p : Program} {l : Launch} {e : Env} {s : State} {mth : MethodId} {args : Array Value} {below : List Frame} {meth : Method} {c : Code} {D : va_G} {cy : Nat → ClassId} {o : Nat} {Q : Int32 → ct_M → Prop} {v0 : Nat} {v1 : Int32} {v2 : Int32} {v3 : Int32} {m : ct_M} (C : ct_Cx p s mth c cX12_parseToken 8 args RX12 D cy) (hr : meth.sig.returnType = (some .boolean)) (hlk : meth.locks = false) (kv0 : ct_K 12 v0) (h : wb_X12_parseToken_40 Q v0 v1 v2 v3 m) : ct_J p l e rm_X12_parseToken s mth args below meth c 8 D cy o ct_NN 0 0 (MQ below (va_Qi Q (ct_P D cy o ct_NN) (fun q => o ≤ q)) args s 0 0 (fun q => o ≤ q)) m 40 [(0, .ref (o + v0)), (1, .int v1), (2, .int v2), (3, .int v3)] [] := by
  unfold wb_X12_parseToken_40 at h
  refine ct_iconst C dX12_parseToken_40 (1 : Int32) (by decide) ?_
  refine ct_goto C dX12_parseToken_41 45 (by decide) ?_
  refine ct_sub [0, 1, 2, 3] [(0, .ref (o + v0)), (1, .int v1), (2, .int v2), (3, .int v3)] rfl ?_
  exact kb_X12_parseToken_45 C hr hlk  kv0 h
set_option maxHeartbeats 4000000 in
set_option maxRecDepth 100000 in
theorem c_X12_parseToken (l : Launch) (D : va_G) (cy : Nat → ClassId) (o : Nat) {a0 : Nat} {Q : Int32 → ct_M → Prop} {m : ct_M} (ka0 : ct_K 12 a0) (h : wp_X12_parseToken a0 Q m) : Met l yX12_parseToken (ct_ws yX12_parseToken cX12_parseToken 8 (some .boolean)) rm_X12_parseToken (va_Pc [.ref (o + a0)] (ct_P D cy o ct_NN m)) (va_Qi Q (ct_P D cy o ct_NN) (fun q => o ≤ q)) 0 0 (fun q => o ≤ q) := by
  refine ct_met l D cy o ct_NN m (by decide) (Nat.le_of_ble_eq_true rfl) (fun p e s mth args below meth c C hr hlk => ?_)
  refine ct_sub [0] [(0, .ref (o + a0))] rfl ?_
  unfold wp_X12_parseToken at h
  refine ct_aload_n C dX12_parseToken_0 0 rfl rfl ?_
  refine gf_X12_7 C dX12_parseToken_1 ka0 ?_
  have hk1 := ct_t12_1 ka0
  refine ct_aload_n C dX12_parseToken_4 0 rfl rfl ?_
  refine gf_X12_155 C dX12_parseToken_5 ka0 ?_
  refine ct_iald C dX12_parseToken_8 hk1 h.1 ?_
  have h := h.2
  refine ct_topi (fun x2 ex2 => ?_)
  have h := h x2 ex2
  refine ct_istore_n C dX12_parseToken_9 [(1, .int x2), (0, .ref (o + a0))] rfl (by decide) rfl ?_
  refine ct_aload_n C dX12_parseToken_10 1 rfl rfl ?_
  refine gf_X12_60 C dX12_parseToken_11 ka0 ?_
  have hk3 := ct_t12_22 ka0
  refine ct_aload_n C dX12_parseToken_14 1 rfl rfl ?_
  refine gf_X12_158 C dX12_parseToken_15 ka0 ?_
  refine ct_iald C dX12_parseToken_18 hk3 h.1 ?_
  have h := h.2
  refine ct_topi (fun x4 ex4 => ?_)
  have h := h x4 ex4
  refine ct_istore_n C dX12_parseToken_19 [(2, .int x4), (1, .int x2), (0, .ref (o + a0))] rfl (by decide) rfl ?_
  refine ct_bipush C dX12_parseToken_20 (60 : Int32) (by decide) ?_
  refine ct_aload_n C dX12_parseToken_22 2 rfl rfl ?_
  refine gf_X12_158 C dX12_parseToken_23 ka0 ?_
  refine ct_imul C dX12_parseToken_26 ?_
  refine ct_topi (fun x5 ex5 => ?_)
  have h := h x5 ex5
  refine ct_istore_n C dX12_parseToken_27 [(3, .int x5), (2, .int x4), (1, .int x2), (0, .ref (o + a0))] rfl (by decide) rfl ?_
  refine ct_iload_n C dX12_parseToken_28 2 rfl rfl ?_
  refine ct_bipush C dX12_parseToken_29 (40 : Int32) (by decide) ?_
  refine ct_icmp_eq C dX12_parseToken_31 40 (by decide) (fun hc6 => ?_) (fun hc6 => ?_)
  · have h := h.1 hc6
    refine ct_sub [3, 2, 1, 0] [(0, .ref (o + a0)), (1, .int x2), (2, .int x4), (3, .int x5)] rfl ?_
    exact kb_X12_parseToken_40 C hr hlk  ka0 h
  · have h := h.2 hc6
    refine ct_iload_n C dX12_parseToken_34 2 rfl rfl ?_
    refine ct_bipush C dX12_parseToken_35 (123 : Int32) (by decide) ?_
    refine ct_icmp_ne C dX12_parseToken_37 44 (by decide) (fun hc7 => ?_) (fun hc7 => ?_)
    · have h := h.1 hc7
      refine ct_iconst C dX12_parseToken_44 (0 : Int32) (by decide) ?_
      refine ct_sub [3, 2, 1, 0] [(0, .ref (o + a0)), (1, .int x2), (2, .int x4), (3, .int x5)] rfl ?_
      exact kb_X12_parseToken_45 C hr hlk  ka0 h
    · have h := h.2 hc7
      refine ct_sub [3, 2, 1, 0] [(0, .ref (o + a0)), (1, .int x2), (2, .int x4), (3, .int x5)] rfl ?_
      exact kb_X12_parseToken_40 C hr hlk  ka0 h
abbrev rm_X12_parseThread : Room := { frames := 3, cells := 0, slots := 0, locals := 75 }
set_option maxHeartbeats 4000000 in
set_option maxRecDepth 100000 in
theorem kb_X12_parseThread_121 {p : Program} {l : Launch} {e : Env} {s : State} {mth : MethodId} {args : Array Value} {below : List Frame} {meth : Method} {c : Code} {D : va_G} {cy : Nat → ClassId} {o : Nat} {Q : Int32 → ct_M → Prop} {v0 : Nat} {m : ct_M} (C : ct_Cx p s mth c cX12_parseThread 1 args RX12 D cy) (hr : meth.sig.returnType = (some .boolean)) (hlk : meth.locks = false) (kv0 : ct_K 12 v0) (h : wb_X12_parseThread_121 Q v0 m) : ct_J p l e rm_X12_parseThread s mth args below meth c 1 D cy o ct_NN 0 0 (MQ below (va_Qi Q (ct_P D cy o ct_NN) (fun q => o ≤ q)) args s 0 0 (fun q => o ≤ q)) m 121 [(0, .ref (o + v0))] [] := by
  unfold wb_X12_parseThread_121 at h
  refine ct_aload_n C dX12_parseThread_121 0 rfl rfl ?_
  refine gf_X12_155 C dX12_parseThread_122 kv0 ?_
  refine ct_aload_n C dX12_parseThread_125 0 rfl rfl ?_
  refine gf_X12_152 C dX12_parseThread_126 kv0 ?_
  refine ct_icmp_ne C dX12_parseThread_129 134 (by decide) (fun hc1 => ?_) (fun hc1 => ?_)
  · have h := h.1 hc1
    refine ct_aload_n C dX12_parseThread_134 0 rfl rfl ?_
    refine ct_dup C dX12_parseThread_135 rfl ?_
    refine gf_X12_155 C dX12_parseThread_136 kv0 ?_
    refine ct_iconst C dX12_parseThread_139 (1 : Int32) (by decide) ?_
    refine ct_iadd C dX12_parseThread_140 ?_
    refine pf_X12_155 C dX12_parseThread_141 kv0 ?_
    refine ct_mem (fun m2 em2 => ?_)
    have h := h m2 em2
    refine ct_aload_n C dX12_parseThread_144 0 rfl rfl ?_
    refine ct_dup C dX12_parseThread_145 rfl ?_
    refine gf_X12_158 C dX12_parseThread_146 kv0 ?_
    refine ct_iconst C dX12_parseThread_149 (1 : Int32) (by decide) ?_
    refine ct_iadd C dX12_parseThread_150 ?_
    refine pf_X12_158 C dX12_parseThread_151 kv0 ?_
    refine ct_mem (fun m3 em3 => ?_)
    have h := h m3 em3
    refine ct_iconst C dX12_parseThread_154 (1 : Int32) (by decide) ?_
    exact ct_zret C hr hlk dX12_parseThread_155 (by decide) h
  · have h := h.2 hc1
    refine ct_iconst C dX12_parseThread_132 (0 : Int32) (by decide) ?_
    exact ct_zret C hr hlk dX12_parseThread_133 (by decide) h
set_option maxHeartbeats 4000000 in
set_option maxRecDepth 100000 in
theorem kb_X12_parseThread_112 {p : Program} {l : Launch} {e : Env} {s : State} {mth : MethodId} {args : Array Value} {below : List Frame} {meth : Method} {c : Code} {D : va_G} {cy : Nat → ClassId} {o : Nat} {Q : Int32 → ct_M → Prop} {K80 : Nat → ct_M → Prop} {v0 : Nat} {m : ct_M} (C : ct_Cx p s mth c cX12_parseThread 1 args RX12 D cy) (hr : meth.sig.returnType = (some .boolean)) (hlk : meth.locks = false) (hK80 : ∀ (v0 : Nat) (m : ct_M), ct_K 12 v0 → K80 v0 m → ct_J p l e rm_X12_parseThread s mth args below meth c 1 D cy o ct_NN 0 0 (MQ below (va_Qi Q (ct_P D cy o ct_NN) (fun q => o ≤ q)) args s 0 0 (fun q => o ≤ q)) m 80 [(0, .ref (o + v0))] []) (kv0 : ct_K 12 v0) (h : wb_X12_parseThread_112 K80 Q v0 m) : ct_J p l e rm_X12_parseThread s mth args below meth c 1 D cy o ct_NN 0 0 (MQ below (va_Qi Q (ct_P D cy o ct_NN) (fun q => o ≤ q)) args s 0 0 (fun q => o ≤ q)) m 112 [(0, .ref (o + v0))] [] := by
  unfold wb_X12_parseThread_112 at h
  refine ct_aload_n C dX12_parseThread_112 0 rfl rfl ?_
  refine ct_callVi (As := []) (T := TX12) C (c_X12_parseToken l D cy o kv0 h) kv_X12_176 kv0.1 (ct_E12 kv0) rfl rfl rfl (Nat.le_of_ble_eq_true rfl) ⟨rfl, rfl, Nat.le_of_ble_eq_true rfl, Nat.le_of_ble_eq_true rfl⟩ ⟨Nat.zero_le _, Nat.zero_le _⟩ dX12_parseThread_113 (fun r2 m1 h => ?_)
  refine ct_if_ne C dX12_parseThread_116 80 (by decide) (fun hc3 => ?_) (fun hc3 => ?_)
  · have h := h.1 hc3
    refine ct_sub [0] [(0, .ref (o + v0))] rfl ?_
    exact hK80 _ _ kv0 h
  · have h := h.2 hc3
    refine ct_iconst C dX12_parseThread_119 (0 : Int32) (by decide) ?_
    exact ct_zret C hr hlk dX12_parseThread_120 (by decide) h
set_option maxHeartbeats 4000000 in
set_option maxRecDepth 100000 in
theorem kb_X12_parseThread_80 {p : Program} {l : Launch} {e : Env} {s : State} {mth : MethodId} {args : Array Value} {below : List Frame} {meth : Method} {c : Code} {D : va_G} {cy : Nat → ClassId} {o : Nat} {Q : Int32 → ct_M → Prop} (C : ct_Cx p s mth c cX12_parseThread 1 args RX12 D cy) (hr : meth.sig.returnType = (some .boolean)) (hlk : meth.locks = false) : ∀ (n : Nat) (v0 : Nat) (m : ct_M) (kv0 : ct_K 12 v0), wb_X12_parseThread_80 Q n v0 m → ct_J p l e rm_X12_parseThread s mth args below meth c 1 D cy o ct_NN 0 0 (MQ below (va_Qi Q (ct_P D cy o ct_NN) (fun q => o ≤ q)) args s 0 0 (fun q => o ≤ q)) m 80 [(0, .ref (o + v0))] [] := by
  intro n
  induction n with
  | zero => intro v0 m kv0 h; exact h.elim
  | succ n ih =>
    intro v0 m kv0 h
    unfold wb_X12_parseThread_80 at h
    refine ct_aload_n C dX12_parseThread_80 0 rfl rfl ?_
    refine gf_X12_155 C dX12_parseThread_81 kv0 ?_
    refine ct_aload_n C dX12_parseThread_84 0 rfl rfl ?_
    refine gf_X12_152 C dX12_parseThread_85 kv0 ?_
    refine ct_icmp_ge C dX12_parseThread_88 121 (by decide) (fun hc1 => ?_) (fun hc1 => ?_)
    · have h := h.1 hc1
      refine ct_sub [0] [(0, .ref (o + v0))] rfl ?_
      exact kb_X12_parseThread_121 C hr hlk  kv0 h
    · have h := h.2 hc1
      refine ct_aload_n C dX12_parseThread_91 0 rfl rfl ?_
      refine gf_X12_7 C dX12_parseThread_92 kv0 ?_
      have hk2 := ct_t12_1 kv0
      refine ct_aload_n C dX12_parseThread_95 0 rfl rfl ?_
      refine gf_X12_155 C dX12_parseThread_96 kv0 ?_
      refine ct_iald C dX12_parseThread_99 hk2 h.1 ?_
      have h := h.2
      refine ct_bipush C dX12_parseThread_100 (46 : Int32) (by decide) ?_
      refine ct_icmp_ne C dX12_parseThread_102 112 (by decide) (fun hc3 => ?_) (fun hc3 => ?_)
      · have h := h.1 hc3
        refine ct_sub [0] [(0, .ref (o + v0))] rfl ?_
        exact kb_X12_parseThread_112 C hr hlk ih kv0 h
      · have h := h.2 hc3
        refine ct_aload_n C dX12_parseThread_105 0 rfl rfl ?_
        refine gf_X12_161 C dX12_parseThread_106 kv0 ?_
        refine ct_if_le C dX12_parseThread_109 121 (by decide) (fun hc4 => ?_) (fun hc4 => ?_)
        · have h := h.1 hc4
          refine ct_sub [0] [(0, .ref (o + v0))] rfl ?_
          exact kb_X12_parseThread_121 C hr hlk  kv0 h
        · have h := h.2 hc4
          refine ct_sub [0] [(0, .ref (o + v0))] rfl ?_
          exact kb_X12_parseThread_112 C hr hlk ih kv0 h
set_option maxHeartbeats 4000000 in
set_option maxRecDepth 100000 in
theorem c_X12_parseThread (l : Launch) (D : va_G) (cy : Nat → ClassId) (o : Nat) {a0 : Nat} {Q : Int32 → ct_M → Prop} {m : ct_M} (ka0 : ct_K 12 a0) (h : wp_X12_parseThread a0 Q m) : Met l yX12_parseThread (ct_ws yX12_parseThread cX12_parseThread 1 (some .boolean)) rm_X12_parseThread (va_Pc [.ref (o + a0)] (ct_P D cy o ct_NN m)) (va_Qi Q (ct_P D cy o ct_NN) (fun q => o ≤ q)) 0 0 (fun q => o ≤ q) := by
  refine ct_met l D cy o ct_NN m (by decide) (Nat.le_of_ble_eq_true rfl) (fun p e s mth args below meth c C hr hlk => ?_)
  refine ct_sub [0] [(0, .ref (o + a0))] rfl ?_
  unfold wp_X12_parseThread at h
  refine ct_aload_n C dX12_parseThread_0 0 rfl rfl ?_
  refine gf_X12_158 C dX12_parseThread_1 ka0 ?_
  refine ct_iconst C dX12_parseThread_4 (3 : Int32) (by decide) ?_
  refine ct_icmp_eq C dX12_parseThread_5 22 (by decide) (fun hc1 => ?_) (fun hc1 => ?_)
  · have h := h.1 hc1
    refine ct_iconst C dX12_parseThread_22 (0 : Int32) (by decide) ?_
    exact ct_zret C hr hlk dX12_parseThread_23 (by decide) h
  · have h := h.2 hc1
    refine ct_aload_n C dX12_parseThread_8 0 rfl rfl ?_
    refine gf_X12_7 C dX12_parseThread_9 ka0 ?_
    have hk2 := ct_t12_1 ka0
    refine ct_aload_n C dX12_parseThread_12 0 rfl rfl ?_
    refine gf_X12_155 C dX12_parseThread_13 ka0 ?_
    refine ct_iald C dX12_parseThread_16 hk2 h.1 ?_
    have h := h.2
    refine ct_bipush C dX12_parseThread_17 (116 : Int32) (by decide) ?_
    refine ct_icmp_eq C dX12_parseThread_19 24 (by decide) (fun hc3 => ?_) (fun hc3 => ?_)
    · have h := h.1 hc3
      refine ct_aload_n C dX12_parseThread_24 0 rfl rfl ?_
      refine ct_dup C dX12_parseThread_25 rfl ?_
      refine gf_X12_155 C dX12_parseThread_26 ka0 ?_
      refine ct_iconst C dX12_parseThread_29 (1 : Int32) (by decide) ?_
      refine ct_iadd C dX12_parseThread_30 ?_
      refine pf_X12_155 C dX12_parseThread_31 ka0 ?_
      refine ct_mem (fun m4 em4 => ?_)
      have h := h m4 em4
      refine ct_aload_n C dX12_parseThread_34 0 rfl rfl ?_
      refine gf_X12_60 C dX12_parseThread_35 ka0 ?_
      have hk5 := ct_t12_22 ka0
      refine ct_aload_n C dX12_parseThread_38 0 rfl rfl ?_
      refine gf_X12_158 C dX12_parseThread_39 ka0 ?_
      refine ct_iconst C dX12_parseThread_42 (0 : Int32) (by decide) ?_
      refine ct_iast C dX12_parseThread_43 hk5 h.1 ?_
      have h := h.2
      refine ct_mem (fun m6 em6 => ?_)
      have h := h m6 em6
      refine ct_aload_n C dX12_parseThread_44 0 rfl rfl ?_
      refine gf_X12_57 C dX12_parseThread_45 ka0 ?_
      have hk7 := ct_t12_21 ka0
      refine ct_aload_n C dX12_parseThread_48 0 rfl rfl ?_
      refine gf_X12_158 C dX12_parseThread_49 ka0 ?_
      refine ct_aload_n C dX12_parseThread_52 0 rfl rfl ?_
      refine ct_iconst C dX12_parseThread_53 (1 : Int32) (by decide) ?_
      refine ct_iconst C dX12_parseThread_54 (2 : Int32) (by decide) ?_
      refine ct_callVi (As := [.int (1 : Int32), .int (2 : Int32)]) (T := TX12) C (c_X12_number l D cy o ka0 h) kv_X12_172 ka0.1 (ct_E12 ka0) rfl rfl rfl (Nat.le_of_ble_eq_true rfl) ⟨rfl, rfl, Nat.le_of_ble_eq_true rfl, Nat.le_of_ble_eq_true rfl⟩ ⟨Nat.zero_le _, Nat.zero_le _⟩ dX12_parseThread_55 (fun r9 m8 h => ?_)
      refine ct_iast C dX12_parseThread_58 hk7 h.1 ?_
      have h := h.2
      refine ct_mem (fun m10 em10 => ?_)
      have h := h m10 em10
      refine ct_aload_n C dX12_parseThread_59 0 rfl rfl ?_
      refine gf_X12_57 C dX12_parseThread_60 ka0 ?_
      refine ct_aload_n C dX12_parseThread_63 0 rfl rfl ?_
      refine gf_X12_158 C dX12_parseThread_64 ka0 ?_
      refine ct_iald C dX12_parseThread_67 hk7 h.1 ?_
      have h := h.2
      refine ct_bipush C dX12_parseThread_68 (-9 : Int32) (by decide) ?_
      refine ct_icmp_ne C dX12_parseThread_70 75 (by decide) (fun hc11 => ?_) (fun hc11 => ?_)
      · have h := h.1 hc11
        refine ct_aload_n C dX12_parseThread_75 0 rfl rfl ?_
        refine ct_iconst C dX12_parseThread_76 (0 : Int32) (by decide) ?_
        refine pf_X12_161 C dX12_parseThread_77 ka0 ?_
        refine ct_mem (fun m12 em12 => ?_)
        have h := h m12 em12
        refine ct_sub [0] [(0, .ref (o + a0))] rfl ?_
        obtain ⟨n13, h⟩ := h
        exact kb_X12_parseThread_80 C hr hlk  n13 _ _ ka0 h
      · have h := h.2 hc11
        refine ct_iconst C dX12_parseThread_73 (0 : Int32) (by decide) ?_
        exact ct_zret C hr hlk dX12_parseThread_74 (by decide) h
    · have h := h.2 hc3
      refine ct_iconst C dX12_parseThread_22 (0 : Int32) (by decide) ?_
      exact ct_zret C hr hlk dX12_parseThread_23 (by decide) h
abbrev rm_X12_errorPosition : Room := { frames := 4, cells := 0, slots := 0, locals := 95 }
set_option maxHeartbeats 4000000 in
set_option maxRecDepth 100000 in
theorem kb_X12_errorPosition_83 {p : Program} {l : Launch} {e : Env} {s : State} {mth : MethodId} {args : Array Value} {below : List Frame} {meth : Method} {c : Code} {D : va_G} {cy : Nat → ClassId} {o : Nat} {Q : Int32 → ct_M → Prop} (C : ct_Cx p s mth c cX12_errorPosition 2 args RX12 D cy) (hr : meth.sig.returnType = (some .int)) (hlk : meth.locks = false) : ∀ (n : Nat) (v0 : Nat) (m : ct_M) (kv0 : ct_K 12 v0), wb_X12_errorPosition_83 Q n v0 m → ct_J p l e rm_X12_errorPosition s mth args below meth c 2 D cy o ct_NN 0 0 (MQ below (va_Qi Q (ct_P D cy o ct_NN) (fun q => o ≤ q)) args s 0 0 (fun q => o ≤ q)) m 83 [(0, .ref (o + v0))] [] := by
  intro n
  induction n with
  | zero => intro v0 m kv0 h; exact h.elim
  | succ n ih =>
    intro v0 m kv0 h
    unfold wb_X12_errorPosition_83 at h
    refine ct_aload_n C dX12_errorPosition_83 0 rfl rfl ?_
    refine gf_X12_155 C dX12_errorPosition_84 kv0 ?_
    refine ct_aload_n C dX12_errorPosition_87 0 rfl rfl ?_
    refine gf_X12_152 C dX12_errorPosition_88 kv0 ?_
    refine ct_icmp_ge C dX12_errorPosition_91 106 (by decide) (fun hc1 => ?_) (fun hc1 => ?_)
    · have h := h.1 hc1
      refine ct_aload_n C dX12_errorPosition_106 0 rfl rfl ?_
      refine gf_X12_158 C dX12_errorPosition_107 kv0 ?_
      refine ct_if_ne C dX12_errorPosition_110 120 (by decide) (fun hc2 => ?_) (fun hc2 => ?_)
      · have h := h.1 hc2
        refine ct_bipush C dX12_errorPosition_120 (-9 : Int32) (by decide) ?_
        exact ct_ireti C hr hlk dX12_errorPosition_122 h
      · have h := h.2 hc2
        refine ct_aload_n C dX12_errorPosition_113 0 rfl rfl ?_
        refine gf_X12_152 C dX12_errorPosition_114 kv0 ?_
        refine ct_goto C dX12_errorPosition_117 122 (by decide) ?_
        exact ct_ireti C hr hlk dX12_errorPosition_122 h
    · have h := h.2 hc1
      refine ct_aload_n C dX12_errorPosition_94 0 rfl rfl ?_
      refine ct_callVi (As := []) (T := TX12) C (c_X12_parseThread l D cy o kv0 h) kv_X12_180 kv0.1 (ct_E12 kv0) rfl rfl rfl (Nat.le_of_ble_eq_true rfl) ⟨rfl, rfl, Nat.le_of_ble_eq_true rfl, Nat.le_of_ble_eq_true rfl⟩ ⟨Nat.zero_le _, Nat.zero_le _⟩ dX12_errorPosition_95 (fun r4 m3 h => ?_)
      refine ct_if_ne C dX12_errorPosition_98 83 (by decide) (fun hc5 => ?_) (fun hc5 => ?_)
      · have h := h.1 hc5
        refine ct_sub [0] [(0, .ref (o + v0))] rfl ?_
        exact ih _ _ kv0 h
      · have h := h.2 hc5
        refine ct_aload_n C dX12_errorPosition_101 0 rfl rfl ?_
        refine gf_X12_155 C dX12_errorPosition_102 kv0 ?_
        exact ct_ireti C hr hlk dX12_errorPosition_105 h
set_option maxHeartbeats 4000000 in
set_option maxRecDepth 100000 in
theorem kb_X12_errorPosition_42 {p : Program} {l : Launch} {e : Env} {s : State} {mth : MethodId} {args : Array Value} {below : List Frame} {meth : Method} {c : Code} {D : va_G} {cy : Nat → ClassId} {o : Nat} {Q : Int32 → ct_M → Prop} (C : ct_Cx p s mth c cX12_errorPosition 2 args RX12 D cy) (hr : meth.sig.returnType = (some .int)) (hlk : meth.locks = false) : ∀ (n : Nat) (v0 : Nat) (v1 : Int32) (m : ct_M) (kv0 : ct_K 12 v0), wb_X12_errorPosition_42 Q n v0 v1 m → ct_J p l e rm_X12_errorPosition s mth args below meth c 2 D cy o ct_NN 0 0 (MQ below (va_Qi Q (ct_P D cy o ct_NN) (fun q => o ≤ q)) args s 0 0 (fun q => o ≤ q)) m 42 [(0, .ref (o + v0)), (1, .int v1)] [] := by
  intro n
  induction n with
  | zero => intro v0 v1 m kv0 h; exact h.elim
  | succ n ih =>
    intro v0 v1 m kv0 h
    unfold wb_X12_errorPosition_42 at h
    refine ct_iload_n C dX12_errorPosition_42 1 rfl rfl ?_
    refine ct_bipush C dX12_errorPosition_43 (6 : Int32) (by decide) ?_
    refine ct_icmp_ge C dX12_errorPosition_45 83 (by decide) (fun hc1 => ?_) (fun hc1 => ?_)
    · have h := h.1 hc1
      refine ct_sub [0] [(0, .ref (o + v0))] rfl ?_
      obtain ⟨n2, h⟩ := h
      exact kb_X12_errorPosition_83 C hr hlk  n2 _ _ kv0 h
    · have h := h.2 hc1
      refine ct_aload_n C dX12_errorPosition_48 0 rfl rfl ?_
      refine gf_X12_54 C dX12_errorPosition_49 kv0 ?_
      have hk3 := ct_t12_20 kv0
      refine ct_iload_n C dX12_errorPosition_52 1 rfl rfl ?_
      refine ct_aload_n C dX12_errorPosition_53 0 rfl rfl ?_
      refine ct_iconst C dX12_errorPosition_54 (0 : Int32) (by decide) ?_
      refine ct_bipush C dX12_errorPosition_55 (9 : Int32) (by decide) ?_
      refine ct_callVi (As := [.int (0 : Int32), .int (9 : Int32)]) (T := TX12) C (c_X12_number l D cy o kv0 h) kv_X12_172 kv0.1 (ct_E12 kv0) rfl rfl rfl (Nat.le_of_ble_eq_true rfl) ⟨rfl, rfl, Nat.le_of_ble_eq_true rfl, Nat.le_of_ble_eq_true rfl⟩ ⟨Nat.zero_le _, Nat.zero_le _⟩ dX12_errorPosition_57 (fun r5 m4 h => ?_)
      refine ct_iast C dX12_errorPosition_60 hk3 h.1 ?_
      have h := h.2
      refine ct_mem (fun m6 em6 => ?_)
      have h := h m6 em6
      refine ct_aload_n C dX12_errorPosition_61 0 rfl rfl ?_
      refine gf_X12_54 C dX12_errorPosition_62 kv0 ?_
      refine ct_iload_n C dX12_errorPosition_65 1 rfl rfl ?_
      refine ct_iald C dX12_errorPosition_66 hk3 h.1 ?_
      have h := h.2
      refine ct_bipush C dX12_errorPosition_67 (-9 : Int32) (by decide) ?_
      refine ct_icmp_ne C dX12_errorPosition_69 77 (by decide) (fun hc7 => ?_) (fun hc7 => ?_)
      · have h := h.1 hc7
        obtain ⟨x8, ex8⟩ : ∃ z : Int32, z = v1 + (1 : Int32) := ⟨_, rfl⟩
        have h := h x8 ex8
        refine ct_iinc (k := 1) (v := x8) C dX12_errorPosition_77 [(1, .int x8), (0, .ref (o + v0))] rfl (by rw [ex8]; rfl) (by decide) rfl ?_
        refine ct_goto C dX12_errorPosition_80 42 (by decide) ?_
        refine ct_sub [1, 0] [(0, .ref (o + v0)), (1, .int x8)] rfl ?_
        exact ih _ _ _ kv0 h
      · have h := h.2 hc7
        refine ct_aload_n C dX12_errorPosition_72 0 rfl rfl ?_
        refine gf_X12_155 C dX12_errorPosition_73 kv0 ?_
        exact ct_ireti C hr hlk dX12_errorPosition_76 h
set_option maxHeartbeats 4000000 in
set_option maxRecDepth 100000 in
theorem c_X12_errorPosition (l : Launch) (D : va_G) (cy : Nat → ClassId) (o : Nat) {a0 : Nat} {Q : Int32 → ct_M → Prop} {m : ct_M} (ka0 : ct_K 12 a0) (h : wp_X12_errorPosition a0 Q m) : Met l yX12_errorPosition (ct_ws yX12_errorPosition cX12_errorPosition 2 (some .int)) rm_X12_errorPosition (va_Pc [.ref (o + a0)] (ct_P D cy o ct_NN m)) (va_Qi Q (ct_P D cy o ct_NN) (fun q => o ≤ q)) 0 0 (fun q => o ≤ q) := by
  refine ct_met l D cy o ct_NN m (by decide) (Nat.le_of_ble_eq_true rfl) (fun p e s mth args below meth c C hr hlk => ?_)
  refine ct_sub [0] [(0, .ref (o + a0))] rfl ?_
  unfold wp_X12_errorPosition at h
  refine ct_aload_n C dX12_errorPosition_0 0 rfl rfl ?_
  refine ct_iconst C dX12_errorPosition_1 (0 : Int32) (by decide) ?_
  refine pf_X12_85 C dX12_errorPosition_2 ka0 ?_
  refine ct_mem (fun m1 em1 => ?_)
  have h := h m1 em1
  refine ct_aload_n C dX12_errorPosition_5 0 rfl rfl ?_
  refine ct_iconst C dX12_errorPosition_6 (0 : Int32) (by decide) ?_
  refine pf_X12_155 C dX12_errorPosition_7 ka0 ?_
  refine ct_mem (fun m2 em2 => ?_)
  have h := h m2 em2
  refine ct_aload_n C dX12_errorPosition_10 0 rfl rfl ?_
  refine ct_iconst C dX12_errorPosition_11 (0 : Int32) (by decide) ?_
  refine pf_X12_158 C dX12_errorPosition_12 ka0 ?_
  refine ct_mem (fun m3 em3 => ?_)
  have h := h m3 em3
  refine ct_aload_n C dX12_errorPosition_15 0 rfl rfl ?_
  refine gf_X12_152 C dX12_errorPosition_16 ka0 ?_
  refine ct_if_eq C dX12_errorPosition_19 33 (by decide) (fun hc4 => ?_) (fun hc4 => ?_)
  · have h := h.1 hc4
    refine ct_iconst C dX12_errorPosition_33 (0 : Int32) (by decide) ?_
    exact ct_ireti C hr hlk dX12_errorPosition_34 h
  · have h := h.2 hc4
    refine ct_aload_n C dX12_errorPosition_22 0 rfl rfl ?_
    refine gf_X12_7 C dX12_errorPosition_23 ka0 ?_
    have hk5 := ct_t12_1 ka0
    refine ct_iconst C dX12_errorPosition_26 (0 : Int32) (by decide) ?_
    refine ct_iald C dX12_errorPosition_27 hk5 h.1 ?_
    have h := h.2
    refine ct_bipush C dX12_errorPosition_28 (77 : Int32) (by decide) ?_
    refine ct_icmp_eq C dX12_errorPosition_30 35 (by decide) (fun hc6 => ?_) (fun hc6 => ?_)
    · have h := h.1 hc6
      refine ct_aload_n C dX12_errorPosition_35 0 rfl rfl ?_
      refine ct_iconst C dX12_errorPosition_36 (1 : Int32) (by decide) ?_
      refine pf_X12_155 C dX12_errorPosition_37 ka0 ?_
      refine ct_mem (fun m7 em7 => ?_)
      have h := h m7 em7
      refine ct_iconst C dX12_errorPosition_40 (0 : Int32) (by decide) ?_
      refine ct_istore_n C dX12_errorPosition_41 [(1, .int (0 : Int32)), (0, .ref (o + a0))] rfl (by decide) rfl ?_
      refine ct_sub [1, 0] [(0, .ref (o + a0)), (1, .int (0 : Int32))] rfl ?_
      obtain ⟨n8, h⟩ := h
      exact kb_X12_errorPosition_42 C hr hlk  n8 _ _ _ ka0 h
    · have h := h.2 hc6
      refine ct_iconst C dX12_errorPosition_33 (0 : Int32) (by decide) ?_
      exact ct_ireti C hr hlk dX12_errorPosition_34 h
