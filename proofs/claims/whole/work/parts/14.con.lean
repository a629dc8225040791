abbrev rm_X11_stepsThrough : Room := { frames := 5, cells := 0, slots := 0, locals := 112 }
set_option maxHeartbeats 4000000 in
set_option maxRecDepth 100000 in
theorem kb_X11_stepsThrough_2 {p : Program} {l : Launch} {e : Env} {s : State} {mth : MethodId} {args : Array Value} {below : List Frame} {meth : Method} {c : Code} {D : va_G} {cy : Nat → ClassId} {o : Nat} {Q : Int32 → ct_M → Prop} (C : ct_Cx p s mth c cX11_stepsThrough 4 args RX11 D cy) (hr : meth.sig.returnType = (some .boolean)) (hlk : meth.locks = false) : ∀ (n : Nat) (v0 : Nat) (v1 : Nat) (v2 : Int32) (v3 : Int32) (m : ct_M) (kv0 : ct_K 11 v0) (kv1 : ct_K 9 v1), wb_X11_stepsThrough_2 Q n v0 v1 v2 v3 m → ct_J p l e rm_X11_stepsThrough s mth args below meth c 4 D cy o ct_NN 0 0 (MQ below (va_Qi Q (ct_P D cy o ct_NN) (fun q => o ≤ q)) args s 0 0 (fun q => o ≤ q)) m 2 [(0, .ref (o + v0)), (1, .ref (o + v1)), (2, .int v2), (3, .int v3)] [] := by
  intro n
  induction n with
  | zero => intro v0 v1 v2 v3 m kv0 kv1 h; exact h.elim
  | succ n ih =>
    intro v0 v1 v2 v3 m kv0 kv1 h
    unfold wb_X11_stepsThrough_2 at h
    refine ct_iload_n C dX11_stepsThrough_2 3 rfl rfl ?_
    refine ct_iload_n C dX11_stepsThrough_3 2 rfl rfl ?_
    refine ct_icmp_ge C dX11_stepsThrough_4 31 (by decide) (fun hc1 => ?_) (fun hc1 => ?_)
    · have h := h.1 hc1
      refine ct_iconst C dX11_stepsThrough_31 (1 : Int32) (by decide) ?_
      exact ct_zret C hr hlk dX11_stepsThrough_32 (by decide) h
    · have h := h.2 hc1
      refine ct_aload_n C dX11_stepsThrough_7 1 rfl rfl ?_
      refine gf_X11_111 C dX11_stepsThrough_8 kv1 ?_
      refine ct_if_eq C dX11_stepsThrough_11 16 (by decide) (fun hc2 => ?_) (fun hc2 => ?_)
      · have h := h.1 hc2
        refine ct_aload_n C dX11_stepsThrough_16 0 rfl rfl ?_
        refine gf_X11_54 C dX11_stepsThrough_17 kv0 ?_
        have hk3 := ct_t11_6 kv0
        refine ct_aload_n C dX11_stepsThrough_20 1 rfl rfl ?_
        refine ct_callVi (As := [.ref (o + v1)]) (T := TX10) C (c_X10_advance l D cy o hk3 kv1 h) kv_X11_151 hk3.1 (ct_E10 hk3) rfl rfl rfl (Nat.le_of_ble_eq_true rfl) ⟨rfl, rfl, Nat.le_of_ble_eq_true rfl, Nat.le_of_ble_eq_true rfl⟩ ⟨Nat.zero_le _, Nat.zero_le _⟩ dX11_stepsThrough_21 (fun r5 m4 h => ?_)
        refine ct_pop C dX11_stepsThrough_24 rfl ?_
        obtain ⟨x6, ex6⟩ : ∃ z : Int32, z = v3 + (1 : Int32) := ⟨_, rfl⟩
        have h := h x6 ex6
        refine ct_iinc (k := 3) (v := x6) C dX11_stepsThrough_25 [(3, .int x6), (0, .ref (o + v0)), (1, .ref (o + v1)), (2, .int v2)] rfl (by rw [ex6]; rfl) (by decide) rfl ?_
        refine ct_goto C dX11_stepsThrough_28 2 (by decide) ?_
        refine ct_sub [1, 2, 3, 0] [(0, .ref (o + v0)), (1, .ref (o + v1)), (2, .int v2), (3, .int x6)] rfl ?_
        exact ih _ _ _ _ _ kv0 kv1 h
      · have h := h.2 hc2
        refine ct_iconst C dX11_stepsThrough_14 (0 : Int32) (by decide) ?_
        exact ct_zret C hr hlk dX11_stepsThrough_15 (by decide) h
set_option maxHeartbeats 4000000 in
set_option maxRecDepth 100000 in
theorem c_X11_stepsThrough (l : Launch) (D : va_G) (cy : Nat → ClassId) (o : Nat) {a0 : Nat} {a1 : Nat} {p2 : Int32} {Q : Int32 → ct_M → Prop} {m : ct_M} (ka0 : ct_K 11 a0) (ka1 : ct_K 9 a1) (h : wp_X11_stepsThrough a0 a1 p2 Q m) : Met l yX11_stepsThrough (ct_ws yX11_stepsThrough cX11_stepsThrough 4 (some .boolean)) rm_X11_stepsThrough (va_Pc [.ref (o + a0), .ref (o + a1), .int p2] (ct_P D cy o ct_NN m)) (va_Qi Q (ct_P D cy o ct_NN) (fun q => o ≤ q)) 0 0 (fun q => o ≤ q) := by
  refine ct_met l D cy o ct_NN m (by decide) (Nat.le_of_ble_eq_true rfl) (fun p e s mth args below meth c C hr hlk => ?_)
  refine ct_sub [0, 1, 2] [(0, .ref (o + a0)), (1, .ref (o + a1)), (2, .int p2)] rfl ?_
  unfold wp_X11_stepsThrough at h
  refine ct_iconst C dX11_stepsThrough_0 (0 : Int32) (by decide) ?_
  refine ct_istore_n C dX11_stepsThrough_1 [(3, .int (0 : Int32)), (0, .ref (o + a0)), (1, .ref (o + a1)), (2, .int p2)] rfl (by decide) rfl ?_
  refine ct_sub [1, 2, 3, 0] [(0, .ref (o + a0)), (1, .ref (o + a1)), (2, .int p2), (3, .int (0 : Int32))] rfl ?_
  obtain ⟨n1, h⟩ := h
  exact kb_X11_stepsThrough_2 C hr hlk  n1 _ _ _ _ _ ka0 ka1 h
abbrev rm_X11_commandSucceeds : Room := { frames := 6, cells := 0, slots := 0, locals := 135 }
set_option maxHeartbeats 4000000 in
set_option maxRecDepth 100000 in
theorem c_X11_commandSucceeds (l : Launch) (D : va_G) (cy : Nat → ClassId) (o : Nat) {a0 : Nat} {p1 : Int32} {p2 : Int32} {p3 : Int32} {Q : Int32 → ct_M → Prop} {m : ct_M} (ka0 : ct_K 11 a0) (h : wp_X11_commandSucceeds a0 p1 p2 p3 Q m) : Met l yX11_commandSucceeds (ct_ws yX11_commandSucceeds cX11_commandSucceeds 4 (some .boolean)) rm_X11_commandSucceeds (va_Pc [.ref (o + a0), .int p1, .int p2, .int p3] (ct_P D cy o ct_NN m)) (va_Qi Q (ct_P D cy o ct_NN) (fun q => o ≤ q)) 0 0 (fun q => o ≤ q) := by
  refine ct_met l D cy o ct_NN m (by decide) (Nat.le_of_ble_eq_true rfl) (fun p e s mth args below meth c C hr hlk => ?_)
  refine ct_sub [0, 1, 2, 3] [(0, .ref (o + a0)), (1, .int p1), (2, .int p2), (3, .int p3)] rfl ?_
  unfold wp_X11_commandSucceeds at h
  refine ct_iload_n C dX11_commandSucceeds_0 1 rfl rfl ?_
  by_cases hc1 : p1 = (1 : Int32)
  · have h := h.1 hc1
    refine ct_tableIn (off := 35) C dX11_commandSucceeds_1 36 (by rw [hc1]; decide) (by rw [hc1]; decide) (by rw [hc1]; decide) (by decide) ?_
    refine ct_aload_n C dX11_commandSucceeds_36 0 rfl rfl ?_
    refine gf_X11_54 C dX11_commandSucceeds_37 ka0 ?_
    have hk2 := ct_t11_6 ka0
    refine ct_iload_n C dX11_commandSucceeds_40 2 rfl rfl ?_
    refine ct_callVi (As := [.int p2]) (T := TX10) C (c_X10_hasThread l D cy o hk2 h) kv_X11_104 hk2.1 (ct_E10 hk2) rfl rfl rfl (Nat.le_of_ble_eq_true rfl) ⟨rfl, rfl, Nat.le_of_ble_eq_true rfl, Nat.le_of_ble_eq_true rfl⟩ ⟨Nat.zero_le _, Nat.zero_le _⟩ dX11_commandSucceeds_41 (fun r4 m3 h => ?_)
    refine ct_if_eq C dX11_commandSucceeds_44 72 (by decide) (fun hc5 => ?_) (fun hc5 => ?_)
    · have h := h.1 hc5
      refine ct_iconst C dX11_commandSucceeds_72 (0 : Int32) (by decide) ?_
      exact ct_zret C hr hlk dX11_commandSucceeds_73 (by decide) h
    · have h := h.2 hc5
      refine ct_iload_n C dX11_commandSucceeds_47 3 rfl rfl ?_
      refine ct_if_le C dX11_commandSucceeds_48 72 (by decide) (fun hc6 => ?_) (fun hc6 => ?_)
      · have h := h.1 hc6
        refine ct_iconst C dX11_commandSucceeds_72 (0 : Int32) (by decide) ?_
        exact ct_zret C hr hlk dX11_commandSucceeds_73 (by decide) h
      · have h := h.2 hc6
        refine ct_aload_n C dX11_commandSucceeds_51 0 rfl rfl ?_
        refine ct_aload_n C dX11_commandSucceeds_52 0 rfl rfl ?_
        refine gf_X11_54 C dX11_commandSucceeds_53 ka0 ?_
        refine gf_X11_107 C dX11_commandSucceeds_56 hk2 ?_
        have hk7 := ct_t10_2 hk2
        refine ct_iload_n C dX11_commandSucceeds_59 2 rfl rfl ?_
        refine ct_aald19 C dX11_commandSucceeds_60 hk7 h.1 ?_
        have hk8 := ct_e19 hk7 (ct_vin h.1)
        have h := h.2
        refine ct_iload_n C dX11_commandSucceeds_61 3 rfl rfl ?_
        refine ct_callVi (As := [.ref (o + (((a0 + 912) + 3) + 4 + 15 * p2.toNatClampNeg)), .int p3]) (T := TX11) C (c_X11_stepsThrough l D cy o ka0 hk8 h) kv_X11_223 ka0.1 (ct_E11 ka0) rfl rfl rfl (Nat.le_of_ble_eq_true rfl) ⟨rfl, rfl, Nat.le_of_ble_eq_true rfl, Nat.le_of_ble_eq_true rfl⟩ ⟨Nat.zero_le _, Nat.zero_le _⟩ dX11_commandSucceeds_62 (fun r10 m9 h => ?_)
        refine ct_if_eq C dX11_commandSucceeds_65 72 (by decide) (fun hc11 => ?_) (fun hc11 => ?_)
        · have h := h.1 hc11
          refine ct_iconst C dX11_commandSucceeds_72 (0 : Int32) (by decide) ?_
          exact ct_zret C hr hlk dX11_commandSucceeds_73 (by decide) h
        · have h := h.2 hc11
          refine ct_iconst C dX11_commandSucceeds_68 (1 : Int32) (by decide) ?_
          refine ct_goto C dX11_commandSucceeds_69 73 (by decide) ?_
          exact ct_zret C hr hlk dX11_commandSucceeds_73 (by decide) h
  · have h := h.2 hc1
    by_cases hc12 : p1 = (2 : Int32)
    · have h := h.1 hc12
      refine ct_tableIn (off := 73) C dX11_commandSucceeds_1 74 (by rw [hc12]; decide) (by rw [hc12]; decide) (by rw [hc12]; decide) (by decide) ?_
      refine ct_aload_n C dX11_commandSucceeds_74 0 rfl rfl ?_
      refine gf_X11_54 C dX11_commandSucceeds_75 ka0 ?_
      have hk13 := ct_t11_6 ka0
      refine ct_iload_n C dX11_commandSucceeds_78 2 rfl rfl ?_
      refine ct_callVi (As := [.int p2]) (T := TX10) C (c_X10_hasThread l D cy o hk13 h) kv_X11_104 hk13.1 (ct_E10 hk13) rfl rfl rfl (Nat.le_of_ble_eq_true rfl) ⟨rfl, rfl, Nat.le_of_ble_eq_true rfl, Nat.le_of_ble_eq_true rfl⟩ ⟨Nat.zero_le _, Nat.zero_le _⟩ dX11_commandSucceeds_79 (fun r15 m14 h => ?_)
      refine ct_if_eq C dX11_commandSucceeds_82 105 (by decide) (fun hc16 => ?_) (fun hc16 => ?_)
      · have h := h.1 hc16
        refine ct_iconst C dX11_commandSucceeds_105 (0 : Int32) (by decide) ?_
        exact ct_zret C hr hlk dX11_commandSucceeds_106 (by decide) h
      · have h := h.2 hc16
        refine ct_aload_n C dX11_commandSucceeds_85 0 rfl rfl ?_
        refine gf_X11_54 C dX11_commandSucceeds_86 ka0 ?_
        refine gf_X11_107 C dX11_commandSucceeds_89 hk13 ?_
        have hk17 := ct_t10_2 hk13
        refine ct_iload_n C dX11_commandSucceeds_92 2 rfl rfl ?_
        refine ct_aald19 C dX11_commandSucceeds_93 hk17 h.1 ?_
        have hk18 := ct_e19 hk17 (ct_vin h.1)
        have h := h.2
        refine gf_X11_111 C dX11_commandSucceeds_94 hk18 ?_
        refine ct_iload_n C dX11_commandSucceeds_97 3 rfl rfl ?_
        refine ct_icmp_ne C dX11_commandSucceeds_98 105 (by decide) (fun hc19 => ?_) (fun hc19 => ?_)
        · have h := h.1 hc19
          refine ct_iconst C dX11_commandSucceeds_105 (0 : Int32) (by decide) ?_
          exact ct_zret C hr hlk dX11_commandSucceeds_106 (by decide) h
        · have h := h.2 hc19
          refine ct_iconst C dX11_commandSucceeds_101 (1 : Int32) (by decide) ?_
          refine ct_goto C dX11_commandSucceeds_102 106 (by decide) ?_
          exact ct_zret C hr hlk dX11_commandSucceeds_106 (by decide) h
    · have h := h.2 hc12
      by_cases hc20 : p1 = (3 : Int32)
      · have h := h.1 hc20
        refine ct_tableIn (off := 106) C dX11_commandSucceeds_1 107 (by rw [hc20]; decide) (by rw [hc20]; decide) (by rw [hc20]; decide) (by decide) ?_
        refine ct_iload_n C dX11_commandSucceeds_107 2 rfl rfl ?_
        refine ct_callSi (As := [.int p2]) C (c_X11_isCell l D cy o  h) kv_X11_93 rfl rfl (Nat.le_of_ble_eq_true rfl) ⟨rfl, rfl, Nat.le_of_ble_eq_true rfl, Nat.le_of_ble_eq_true rfl⟩ ⟨Nat.zero_le _, Nat.zero_le _⟩ dX11_commandSucceeds_108 (fun r22 m21 h => ?_)
        refine ct_if_eq C dX11_commandSucceeds_111 131 (by decide) (fun hc23 => ?_) (fun hc23 => ?_)
        · have h := h.1 hc23
          refine ct_iconst C dX11_commandSucceeds_131 (0 : Int32) (by decide) ?_
          exact ct_zret C hr hlk dX11_commandSucceeds_132 (by decide) h
        · have h := h.2 hc23
          refine ct_aload_n C dX11_commandSucceeds_114 0 rfl rfl ?_
          refine gf_X11_54 C dX11_commandSucceeds_115 ka0 ?_
          have hk24 := ct_t11_6 ka0
          refine gf_X11_97 C dX11_commandSucceeds_118 hk24 ?_
          have hk25 := ct_t10_0 hk24
          refine ct_iload_n C dX11_commandSucceeds_121 2 rfl rfl ?_
          refine ct_iald C dX11_commandSucceeds_122 hk25 h.1 ?_
          have h := h.2
          refine ct_iload_n C dX11_commandSucceeds_123 3 rfl rfl ?_
          refine ct_icmp_ne C dX11_commandSucceeds_124 131 (by decide) (fun hc26 => ?_) (fun hc26 => ?_)
          · have h := h.1 hc26
            refine ct_iconst C dX11_commandSucceeds_131 (0 : Int32) (by decide) ?_
            exact ct_zret C hr hlk dX11_commandSucceeds_132 (by decide) h
          · have h := h.2 hc26
            refine ct_iconst C dX11_commandSucceeds_127 (1 : Int32) (by decide) ?_
            refine ct_goto C dX11_commandSucceeds_128 132 (by decide) ?_
            exact ct_zret C hr hlk dX11_commandSucceeds_132 (by decide) h
      · have h := h.2 hc20
        by_cases hc27 : p1 = (4 : Int32)
        · have h := h.1 hc27
          refine ct_tableIn (off := 132) C dX11_commandSucceeds_1 133 (by rw [hc27]; decide) (by rw [hc27]; decide) (by rw [hc27]; decide) (by decide) ?_
          refine ct_iload_n C dX11_commandSucceeds_133 2 rfl rfl ?_
          refine ct_callSi (As := [.int p2]) C (c_X11_isCell l D cy o  h) kv_X11_93 rfl rfl (Nat.le_of_ble_eq_true rfl) ⟨rfl, rfl, Nat.le_of_ble_eq_true rfl, Nat.le_of_ble_eq_true rfl⟩ ⟨Nat.zero_le _, Nat.zero_le _⟩ dX11_commandSucceeds_134 (fun r29 m28 h => ?_)
          refine ct_if_eq C dX11_commandSucceeds_137 157 (by decide) (fun hc30 => ?_) (fun hc30 => ?_)
          · have h := h.1 hc30
            refine ct_iconst C dX11_commandSucceeds_157 (0 : Int32) (by decide) ?_
            exact ct_zret C hr hlk dX11_commandSucceeds_158 (by decide) h
          · have h := h.2 hc30
            refine ct_aload_n C dX11_commandSucceeds_140 0 rfl rfl ?_
            refine gf_X11_54 C dX11_commandSucceeds_141 ka0 ?_
            have hk31 := ct_t11_6 ka0
            refine gf_X11_101 C dX11_commandSucceeds_144 hk31 ?_
            have hk32 := ct_t10_1 hk31
            refine ct_iload_n C dX11_commandSucceeds_147 2 rfl rfl ?_
            refine ct_iald C dX11_commandSucceeds_148 hk32 h.1 ?_
            have h := h.2
            refine ct_iload_n C dX11_commandSucceeds_149 3 rfl rfl ?_
            refine ct_icmp_ne C dX11_commandSucceeds_150 157 (by decide) (fun hc33 => ?_) (fun hc33 => ?_)
            · have h := h.1 hc33
              refine ct_iconst C dX11_commandSucceeds_157 (0 : Int32) (by decide) ?_
              exact ct_zret C hr hlk dX11_commandSucceeds_158 (by decide) h
            · have h := h.2 hc33
              refine ct_iconst C dX11_commandSucceeds_153 (1 : Int32) (by decide) ?_
              refine ct_goto C dX11_commandSucceeds_154 158 (by decide) ?_
              exact ct_zret C hr hlk dX11_commandSucceeds_158 (by decide) h
        · have h := h.2 hc27
          by_cases hc34 : p1 = (5 : Int32)
          · have h := h.1 hc34
            refine ct_tableIn (off := 158) C dX11_commandSucceeds_1 159 (by rw [hc34]; decide) (by rw [hc34]; decide) (by rw [hc34]; decide) (by decide) ?_
            refine ct_aload_n C dX11_commandSucceeds_159 0 rfl rfl ?_
            refine gf_X11_54 C dX11_commandSucceeds_160 ka0 ?_
            have hk35 := ct_t11_6 ka0
            refine ct_iload_n C dX11_commandSucceeds_163 2 rfl rfl ?_
            refine ct_callVi (As := [.int p2]) (T := TX10) C (c_X10_hasThread l D cy o hk35 h) kv_X11_104 hk35.1 (ct_E10 hk35) rfl rfl rfl (Nat.le_of_ble_eq_true rfl) ⟨rfl, rfl, Nat.le_of_ble_eq_true rfl, Nat.le_of_ble_eq_true rfl⟩ ⟨Nat.zero_le _, Nat.zero_le _⟩ dX11_commandSucceeds_164 (fun r37 m36 h => ?_)
            refine ct_if_eq C dX11_commandSucceeds_167 190 (by decide) (fun hc38 => ?_) (fun hc38 => ?_)
            · have h := h.1 hc38
              refine ct_iconst C dX11_commandSucceeds_190 (0 : Int32) (by decide) ?_
              exact ct_zret C hr hlk dX11_commandSucceeds_191 (by decide) h
            · have h := h.2 hc38
              refine ct_aload_n C dX11_commandSucceeds_170 0 rfl rfl ?_
              refine gf_X11_54 C dX11_commandSucceeds_171 ka0 ?_
              refine gf_X11_107 C dX11_commandSucceeds_174 hk35 ?_
              have hk39 := ct_t10_2 hk35
              refine ct_iload_n C dX11_commandSucceeds_177 2 rfl rfl ?_
              refine ct_aald19 C dX11_commandSucceeds_178 hk39 h.1 ?_
              have hk40 := ct_e19 hk39 (ct_vin h.1)
              have h := h.2
              refine gf_X11_144 C dX11_commandSucceeds_179 hk40 ?_
              refine ct_iload_n C dX11_commandSucceeds_182 3 rfl rfl ?_
              refine ct_icmp_ne C dX11_commandSucceeds_183 190 (by decide) (fun hc41 => ?_) (fun hc41 => ?_)
              · have h := h.1 hc41
                refine ct_iconst C dX11_commandSucceeds_190 (0 : Int32) (by decide) ?_
                exact ct_zret C hr hlk dX11_commandSucceeds_191 (by decide) h
              · have h := h.2 hc41
                refine ct_iconst C dX11_commandSucceeds_186 (1 : Int32) (by decide) ?_
                refine ct_goto C dX11_commandSucceeds_187 191 (by decide) ?_
                exact ct_zret C hr hlk dX11_commandSucceeds_191 (by decide) h
          · have h := h.2 hc34
            have thc1 := lv_neT hc1 (a := 1) (by decide)
            have thc12 := lv_neT hc12 (a := 2) (by decide)
            have thc20 := lv_neT hc20 (a := 3) (by decide)
            have thc27 := lv_neT hc27 (a := 4) (by decide)
            have thc34 := lv_neT hc34 (a := 5) (by decide)
            refine ct_tableOut C dX11_commandSucceeds_1 192 (by omega) (by decide) ?_
            refine ct_iconst C dX11_commandSucceeds_192 (0 : Int32) (by decide) ?_
            exact ct_zret C hr hlk dX11_commandSucceeds_193 (by decide) h
abbrev rm_X11_runScript : Room := { frames := 7, cells := 0, slots := 0, locals := 158 }
set_option maxHeartbeats 4000000 in
set_option maxRecDepth 100000 in
theorem kb_X11_runScript_73 {p : Program} {l : Launch} {e : Env} {s : State} {mth : MethodId} {args : Array Value} {below : List Frame} {meth : Method} {c : Code} {D : va_G} {cy : Nat → ClassId} {o : Nat} {Q : Int32 → ct_M → Prop} (C : ct_Cx p s mth c cX11_runScript 8 args RX11 D cy) (hr : meth.sig.returnType = (some .int)) (hlk : meth.locks = false) : ∀ (n : Nat) (v0 : Nat) (v1 : Int32) (v2 : Int64) (v4 : Int64) (v6 : Int32) (m : ct_M) (kv0 : ct_K 11 v0), wb_X11_runScript_73 Q n v0 v1 v2 v4 v6 m → ct_J p l e rm_X11_runScript s mth args below meth c 8 D cy o ct_NN 0 0 (MQ below (va_Qi Q (ct_P D cy o ct_NN) (fun q => o ≤ q)) args s 0 0 (fun q => o ≤ q)) m 73 [(0, .ref (o + v0)), (1, .int v1), (2, .long v2), (4, .long v4), (6, .int v6)] [] := by
  intro n
  induction n with
  | zero => intro v0 v1 v2 v4 v6 m kv0 h; exact h.elim
  | succ n ih =>
    intro v0 v1 v2 v4 v6 m kv0 h
    unfold wb_X11_runScript_73 at h
    refine ct_iload C dX11_runScript_73 4 rfl ?_
    refine ct_iload_n C dX11_runScript_75 1 rfl rfl ?_
    refine ct_icmp_ge C dX11_runScript_76 139 (by decide) (fun hc1 => ?_) (fun hc1 => ?_)
    · have h := h.1 hc1
      refine ct_bipush C dX11_runScript_139 (-9 : Int32) (by decide) ?_
      exact ct_ireti C hr hlk dX11_runScript_141 h
    · have h := h.2 hc1
      refine ct_lload C dX11_runScript_79 3 rfl ?_
      refine ct_lconst C dX11_runScript_81 (0 : Int64) (by decide) ?_
      refine ct_lcmp C dX11_runScript_82 ?_
      refine ct_if_le C dX11_runScript_83 139 (by decide) (fun hc2 => ?_) (fun hc2 => ?_)
      · have h := h.1 hc2
        refine ct_bipush C dX11_runScript_139 (-9 : Int32) (by decide) ?_
        exact ct_ireti C hr hlk dX11_runScript_141 h
      · have h := h.2 hc2
        refine ct_lload_n C dX11_runScript_86 2 rfl rfl ?_
        refine ct_lload C dX11_runScript_87 3 rfl ?_
        refine ct_ldiv C dX11_runScript_89 h.1 ?_
        have h := h.2
        refine ct_ldc2 C dX11_runScript_90 mw_414 ?_
        refine ct_lrem C dX11_runScript_93 (by decide) ?_
        refine ct_l2i C dX11_runScript_94 ?_
        refine ct_topi (fun x3 ex3 => ?_)
        have h := h x3 ex3
        refine ct_istore C dX11_runScript_95 [(7, .int x3), (0, .ref (o + v0)), (1, .int v1), (2, .long v2), (4, .long v4), (6, .int v6)] (by decide) rfl ?_
        refine ct_aload_n C dX11_runScript_97 1 rfl rfl ?_
        refine ct_iload C dX11_runScript_98 0 rfl ?_
        refine ct_bipush C dX11_runScript_100 (100 : Int32) (by decide) ?_
        refine ct_idiv C dX11_runScript_102 (by decide) ?_
        refine ct_iload C dX11_runScript_103 0 rfl ?_
        refine ct_bipush C dX11_runScript_105 (10 : Int32) (by decide) ?_
        refine ct_idiv C dX11_runScript_107 (by decide) ?_
        refine ct_bipush C dX11_runScript_108 (10 : Int32) (by decide) ?_
        refine ct_irem C dX11_runScript_110 (by decide) ?_
        refine ct_iload C dX11_runScript_111 0 rfl ?_
        refine ct_bipush C dX11_runScript_113 (10 : Int32) (by decide) ?_
        refine ct_irem C dX11_runScript_115 (by decide) ?_
        refine ct_callVi (As := [.int (x3 / (100 : Int32)), .int ((x3 / (10 : Int32)) - (x3 / (10 : Int32)) / (10 : Int32) * (10 : Int32)), .int (x3 - x3 / (10 : Int32) * (10 : Int32))]) (T := TX11) C (c_X11_commandSucceeds l D cy o kv0 h) kv_X11_213 kv0.1 (ct_E11 kv0) rfl rfl rfl (Nat.le_of_ble_eq_true rfl) ⟨rfl, rfl, Nat.le_of_ble_eq_true rfl, Nat.le_of_ble_eq_true rfl⟩ ⟨Nat.zero_le _, Nat.zero_le _⟩ dX11_runScript_116 (fun r5 m4 h => ?_)
        refine ct_if_ne C dX11_runScript_119 125 (by decide) (fun hc6 => ?_) (fun hc6 => ?_)
        · have h := h.1 hc6
          refine ct_lload C dX11_runScript_125 4 rfl ?_
          refine ct_ldc2 C dX11_runScript_127 mw_414 ?_
          refine ct_ldiv C dX11_runScript_130 (by decide) ?_
          refine ct_topl (fun x7 ex7 => ?_)
          have h := h x7 ex7
          refine ct_lstore C dX11_runScript_131 [(4, .long x7), (7, .int x3), (0, .ref (o + v0)), (1, .int v1), (2, .long v2), (6, .int v6)] (by decide) rfl ?_
          obtain ⟨x8, ex8⟩ : ∃ z : Int32, z = v6 + (1 : Int32) := ⟨_, rfl⟩
          have h := h x8 ex8
          refine ct_iinc (k := 5) (v := x8) C dX11_runScript_133 [(6, .int x8), (4, .long x7), (7, .int x3), (0, .ref (o + v0)), (1, .int v1), (2, .long v2)] rfl (by rw [ex8]; rfl) (by decide) rfl ?_
          refine ct_goto C dX11_runScript_136 73 (by decide) ?_
          refine ct_sub [3, 4, 5, 1, 0] [(0, .ref (o + v0)), (1, .int v1), (2, .long v2), (4, .long x7), (6, .int x8)] rfl ?_
          exact ih _ _ _ _ _ _ kv0 h
        · have h := h.2 hc6
          refine ct_iload C dX11_runScript_122 5 rfl ?_
          exact ct_ireti C hr hlk dX11_runScript_124 h
set_option maxHeartbeats 4000000 in
set_option maxRecDepth 100000 in
theorem kb_X11_runScript_25 {p : Program} {l : Launch} {e : Env} {s : State} {mth : MethodId} {args : Array Value} {below : List Frame} {meth : Method} {c : Code} {D : va_G} {cy : Nat → ClassId} {o : Nat} {Q : Int32 → ct_M → Prop} (C : ct_Cx p s mth c cX11_runScript 8 args RX11 D cy) (hr : meth.sig.returnType = (some .int)) (hlk : meth.locks = false) : ∀ (n : Nat) (v0 : Nat) (v1 : Int32) (v2 : Int64) (v4 : Int64) (v6 : Int32) (m : ct_M) (kv0 : ct_K 11 v0), wb_X11_runScript_25 Q n v0 v1 v2 v4 v6 m → ct_J p l e rm_X11_runScript s mth args below meth c 8 D cy o ct_NN 0 0 (MQ below (va_Qi Q (ct_P D cy o ct_NN) (fun q => o ≤ q)) args s 0 0 (fun q => o ≤ q)) m 25 [(0, .ref (o + v0)), (1, .int v1), (2, .long v2), (4, .long v4), (6, .int v6)] [] := by
  intro n
  induction n with
  | zero => intro v0 v1 v2 v4 v6 m kv0 h; exact h.elim
  | succ n ih =>
    intro v0 v1 v2 v4 v6 m kv0 h
    unfold wb_X11_runScript_25 at h
    refine ct_iload C dX11_runScript_25 4 rfl ?_
    refine ct_iload_n C dX11_runScript_27 1 rfl rfl ?_
    refine ct_icmp_ge C dX11_runScript_28 45 (by decide) (fun hc1 => ?_) (fun hc1 => ?_)
    · have h := h.1 hc1
      refine ct_lload_n C dX11_runScript_45 2 rfl rfl ?_
      refine ct_ldc2 C dX11_runScript_46 mw_414 ?_
      refine ct_ldiv C dX11_runScript_49 (by decide) ?_
      refine ct_lload C dX11_runScript_50 3 rfl ?_
      refine ct_lcmp C dX11_runScript_52 ?_
      refine ct_if_lt C dX11_runScript_53 59 (by decide) (fun hc2 => ?_) (fun hc2 => ?_)
      · have h := h.1 hc2
        refine ct_aload_n C dX11_runScript_59 0 rfl rfl ?_
        refine gf_X11_54 C dX11_runScript_60 kv0 ?_
        have hk3 := ct_t11_6 kv0
        refine ct_aload_n C dX11_runScript_63 0 rfl rfl ?_
        refine gf_X11_43 C dX11_runScript_64 kv0 ?_
        have hk4 := ct_t11_2 kv0
        refine ct_callVv (As := [.ref (o + (v0 + 26))]) (T := TX10) C (c_X10_copyFrom l D cy o hk3 hk4 h) kv_X11_210 hk3.1 (ct_E10 hk3) rfl rfl rfl (Nat.le_of_ble_eq_true rfl) ⟨rfl, rfl, Nat.le_of_ble_eq_true rfl, Nat.le_of_ble_eq_true rfl⟩ ⟨Nat.zero_le _, Nat.zero_le _⟩ dX11_runScript_67 (fun m5 h => ?_)
        refine ct_iconst C dX11_runScript_70 (0 : Int32) (by decide) ?_
        refine ct_istore C dX11_runScript_71 [(6, .int (0 : Int32)), (0, .ref (o + v0)), (1, .int v1), (2, .long v2), (4, .long v4)] (by decide) rfl ?_
        refine ct_sub [1, 2, 3, 4, 0] [(0, .ref (o + v0)), (1, .int v1), (2, .long v2), (4, .long v4), (6, .int (0 : Int32))] rfl ?_
        obtain ⟨n6, h⟩ := h
        exact kb_X11_runScript_73 C hr hlk  n6 _ _ _ _ _ _ kv0 h
      · have h := h.2 hc2
        refine ct_bipush C dX11_runScript_56 (-2 : Int32) (by decide) ?_
        exact ct_ireti C hr hlk dX11_runScript_58 h
    · have h := h.2 hc1
      refine ct_lload C dX11_runScript_31 3 rfl ?_
      refine ct_ldc2 C dX11_runScript_33 mw_414 ?_
      refine ct_lmul C dX11_runScript_36 ?_
      refine ct_topl (fun x7 ex7 => ?_)
      have h := h x7 ex7
      refine ct_lstore C dX11_runScript_37 [(4, .long x7), (0, .ref (o + v0)), (1, .int v1), (2, .long v2), (6, .int v6)] (by decide) rfl ?_
      obtain ⟨x8, ex8⟩ : ∃ z : Int32, z = v6 + (1 : Int32) := ⟨_, rfl⟩
      have h := h x8 ex8
      refine ct_iinc (k := 4) (v := x8) C dX11_runScript_39 [(6, .int x8), (4, .long x7), (0, .ref (o + v0)), (1, .int v1), (2, .long v2)] rfl (by rw [ex8]; rfl) (by decide) rfl ?_
      refine ct_goto C dX11_runScript_42 25 (by decide) ?_
      refine ct_sub [2, 3, 4, 1, 0] [(0, .ref (o + v0)), (1, .int v1), (2, .long v2), (4, .long x7), (6, .int x8)] rfl ?_
      exact ih _ _ _ _ _ _ kv0 h
set_option maxHeartbeats 4000000 in
set_option maxRecDepth 100000 in
theorem c_X11_runScript (l : Launch) (D : va_G) (cy : Nat → ClassId) (o : Nat) {a0 : Nat} {p1 : Int32} {p2 : Int64} {Q : Int32 → ct_M → Prop} {m : ct_M} (ka0 : ct_K 11 a0) (h : wp_X11_runScript a0 p1 p2 Q m) : Met l yX11_runScript (ct_ws yX11_runScript cX11_runScript 8 (some .int)) rm_X11_runScript (va_Pc [.ref (o + a0), .int p1, .long p2] (ct_P D cy o ct_NN m)) (va_Qi Q (ct_P D cy o ct_NN) (fun q => o ≤ q)) 0 0 (fun q => o ≤ q) := by
  refine ct_met l D cy o ct_NN m (by decide) (Nat.le_of_ble_eq_true rfl) (fun p e s mth args below meth c C hr hlk => ?_)
  refine ct_sub [0, 1, 2] [(0, .ref (o + a0)), (1, .int p1), (2, .long p2)] rfl ?_
  unfold wp_X11_runScript at h
  refine ct_iload_n C dX11_runScript_0 1 rfl rfl ?_
  refine ct_iconst C dX11_runScript_1 (1 : Int32) (by decide) ?_
  refine ct_icmp_lt C dX11_runScript_2 16 (by decide) (fun hc1 => ?_) (fun hc1 => ?_)
  · have h := h.1 hc1
    refine ct_bipush C dX11_runScript_16 (-2 : Int32) (by decide) ?_
    exact ct_ireti C hr hlk dX11_runScript_18 h
  · have h := h.2 hc1
    refine ct_iload_n C dX11_runScript_5 1 rfl rfl ?_
    refine ct_iconst C dX11_runScript_6 (4 : Int32) (by decide) ?_
    refine ct_icmp_gt C dX11_runScript_7 16 (by decide) (fun hc2 => ?_) (fun hc2 => ?_)
    · have h := h.1 hc2
      refine ct_bipush C dX11_runScript_16 (-2 : Int32) (by decide) ?_
      exact ct_ireti C hr hlk dX11_runScript_18 h
    · have h := h.2 hc2
      refine ct_lload_n C dX11_runScript_10 2 rfl rfl ?_
      refine ct_lconst C dX11_runScript_11 (0 : Int64) (by decide) ?_
      refine ct_lcmp C dX11_runScript_12 ?_
      refine ct_if_ge C dX11_runScript_13 19 (by decide) (fun hc3 => ?_) (fun hc3 => ?_)
      · have h := h.1 hc3
        refine ct_lconst C dX11_runScript_19 (1 : Int64) (by decide) ?_
        refine ct_lstore C dX11_runScript_20 [(4, .long (1 : Int64)), (0, .ref (o + a0)), (1, .int p1), (2, .long p2)] (by decide) rfl ?_
        refine ct_iconst C dX11_runScript_22 (1 : Int32) (by decide) ?_
        refine ct_istore C dX11_runScript_23 [(6, .int (1 : Int32)), (4, .long (1 : Int64)), (0, .ref (o + a0)), (1, .int p1), (2, .long p2)] (by decide) rfl ?_
        refine ct_sub [2, 3, 4, 1, 0] [(0, .ref (o + a0)), (1, .int p1), (2, .long p2), (4, .long (1 : Int64)), (6, .int (1 : Int32))] rfl ?_
        obtain ⟨n4, h⟩ := h
        exact kb_X11_runScript_25 C hr hlk  n4 _ _ _ _ _ _ ka0 h
      · have h := h.2 hc3
        refine ct_bipush C dX11_runScript_16 (-2 : Int32) (by decide) ?_
        exact ct_ireti C hr hlk dX11_runScript_18 h
abbrev rm_X3_add : Room := { frames := 1, cells := 0, slots := 0, locals := 21 }
set_option maxHeartbeats 4000000 in
set_option maxRecDepth 100000 in
theorem kb_X3_add_57 {p : Program} {l : Launch} {e : Env} {s : State} {mth : MethodId} {args : Array Value} {below : List Frame} {meth : Method} {c : Code} {D : va_G} {cy : Nat → ClassId} {o : Nat} {Q : ct_M → Prop} {v0 : Nat} {s0 : Int32} {s1 : Nat} {m : ct_M} (C : ct_Cx p s mth c cX3_add 3 args RX3 D cy) (hr : meth.sig.returnType = none) (hlk : meth.locks = false) (kv0 : ct_K 3 v0) (ks1 : ct_K 3 s1) (h : wb_X3_add_57 Q v0 s0 s1 m) : ct_J p l e rm_X3_add s mth args below meth c 3 D cy o ct_NN 0 0 (MQ below (va_Qv Q (ct_P D cy o ct_NN) (fun q => o ≤ q)) args s 0 0 (fun q => o ≤ q)) m 57 [(0, .ref (o + v0))] [.int s0, .ref (o + s1)] := by
  unfold wb_X3_add_57 at h
  refine pf_X3_18 C dX3_add_57 ks1 ?_
  refine ct_mem (fun m1 em1 => ?_)
  have h := h m1 em1
  refine ct_aload_n C dX3_add_60 0 rfl rfl ?_
  refine ct_aload_n C dX3_add_61 0 rfl rfl ?_
  refine gf_X3_22 C dX3_add_62 kv0 ?_
  refine ct_iconst C dX3_add_65 (1 : Int32) (by decide) ?_
  refine ct_iadd C dX3_add_66 ?_
  refine ct_iconst C dX3_add_67 (4 : Int32) (by decide) ?_
  refine ct_mmin C mw_421 mw_195 mw_196 mw_197 (Nat.le_of_ble_eq_true rfl) (Nat.le_of_ble_eq_true rfl) ⟨Nat.zero_le _, Nat.zero_le _⟩ dX3_add_68 ?_
  refine pf_X3_22 C dX3_add_71 kv0 ?_
  refine ct_mem (fun m2 em2 => ?_)
  have h := h m2 em2
  exact ct_vret C hr hlk dX3_add_74 h
set_option maxHeartbeats 4000000 in
set_option maxRecDepth 100000 in
theorem c_X3_add (l : Launch) (D : va_G) (cy : Nat → ClassId) (o : Nat) {a0 : Nat} {p1 : Int32} {p2 : Int32} {Q : ct_M → Prop} {m : ct_M} (ka0 : ct_K 3 a0) (h : wp_X3_add a0 p1 p2 Q m) : Met l yX3_add (ct_ws yX3_add cX3_add 3 none) rm_X3_add (va_Pc [.ref (o + a0), .int p1, .int p2] (ct_P D cy o ct_NN m)) (va_Qv Q (ct_P D cy o ct_NN) (fun q => o ≤ q)) 0 0 (fun q => o ≤ q) := by
  refine ct_met l D cy o ct_NN m (by decide) (Nat.le_of_ble_eq_true rfl) (fun p e s mth args below meth c C hr hlk => ?_)
  refine ct_sub [0, 1, 2] [(0, .ref (o + a0)), (1, .int p1), (2, .int p2)] rfl ?_
  unfold wp_X3_add at h
  refine ct_aload_n C dX3_add_0 0 rfl rfl ?_
  refine gf_X3_18 C dX3_add_1 ka0 ?_
  refine ct_if_lt C dX3_add_4 15 (by decide) (fun hc1 => ?_) (fun hc1 => ?_)
  · have h := h.1 hc1
    exact ct_vret C hr hlk dX3_add_15 h
  · have h := h.2 hc1
    refine ct_aload_n C dX3_add_7 0 rfl rfl ?_
    refine gf_X3_18 C dX3_add_8 ka0 ?_
    refine ct_iconst C dX3_add_11 (4 : Int32) (by decide) ?_
    refine ct_icmp_lt C dX3_add_12 16 (by decide) (fun hc2 => ?_) (fun hc2 => ?_)
    · have h := h.1 hc2
      refine ct_aload_n C dX3_add_16 0 rfl rfl ?_
      refine gf_X3_9 C dX3_add_17 ka0 ?_
      have hk3 := ct_t3_0 ka0
      refine ct_aload_n C dX3_add_20 0 rfl rfl ?_
      refine gf_X3_18 C dX3_add_21 ka0 ?_
      refine ct_iload_n C dX3_add_24 1 rfl rfl ?_
      refine ct_iast C dX3_add_25 hk3 h.1 ?_
      have h := h.2
      refine ct_mem (fun m4 em4 => ?_)
      have h := h m4 em4
      refine ct_aload_n C dX3_add_26 0 rfl rfl ?_
      refine gf_X3_15 C dX3_add_27 ka0 ?_
      have hk5 := ct_t3_1 ka0
      refine ct_aload_n C dX3_add_30 0 rfl rfl ?_
      refine gf_X3_18 C dX3_add_31 ka0 ?_
      refine ct_iload_n C dX3_add_34 2 rfl rfl ?_
      refine ct_iast C dX3_add_35 hk5 h.1 ?_
      have h := h.2
      refine ct_mem (fun m6 em6 => ?_)
      have h := h m6 em6
      refine ct_aload_n C dX3_add_36 0 rfl rfl ?_
      refine ct_aload_n C dX3_add_37 0 rfl rfl ?_
      refine gf_X3_18 C dX3_add_38 ka0 ?_
      refine ct_iconst C dX3_add_41 (1 : Int32) (by decide) ?_
      refine ct_iadd C dX3_add_42 ?_
      refine ct_iconst C dX3_add_43 (4 : Int32) (by decide) ?_
      refine ct_icmp_ge C dX3_add_44 56 (by decide) (fun hc7 => ?_) (fun hc7 => ?_)
      · have h := h.1 hc7
        refine ct_iconst C dX3_add_56 (0 : Int32) (by decide) ?_
        refine ct_sub [0] [(0, .ref (o + a0))] rfl ?_
        exact kb_X3_add_57 C hr hlk  ka0 ka0 h
      · have h := h.2 hc7
        refine ct_aload_n C dX3_add_47 0 rfl rfl ?_
        refine gf_X3_18 C dX3_add_48 ka0 ?_
        refine ct_iconst C dX3_add_51 (1 : Int32) (by decide) ?_
        refine ct_iadd C dX3_add_52 ?_
        refine ct_goto C dX3_add_53 57 (by decide) ?_
        refine ct_sub [0] [(0, .ref (o + a0))] rfl ?_
        exact kb_X3_add_57 C hr hlk  ka0 ka0 h
    · have h := h.2 hc2
      exact ct_vret C hr hlk dX3_add_15 h
abbrev rm_X11_observe : Room := { frames := 2, cells := 0, slots := 0, locals := 43 }
set_option maxHeartbeats 4000000 in
set_option maxRecDepth 100000 in
theorem c_X11_observe (l : Launch) (D : va_G) (cy : Nat → ClassId) (o : Nat) {a0 : Nat} {p1 : Int32} {p2 : Int32} {Q : Int32 → ct_M → Prop} {m : ct_M} (ka0 : ct_K 11 a0) (h : wp_X11_observe a0 p1 p2 Q m) : Met l yX11_observe (ct_ws yX11_observe cX11_observe 3 (some .int)) rm_X11_observe (va_Pc [.ref (o + a0), .int p1, .int p2] (ct_P D cy o ct_NN m)) (va_Qi Q (ct_P D cy o ct_NN) (fun q => o ≤ q)) 0 0 (fun q => o ≤ q) := by
  refine ct_met l D cy o ct_NN m (by decide) (Nat.le_of_ble_eq_true rfl) (fun p e s mth args below meth c C hr hlk => ?_)
  refine ct_sub [0, 1, 2] [(0, .ref (o + a0)), (1, .int p1), (2, .int p2)] rfl ?_
  unfold wp_X11_observe at h
  refine ct_iload_n C dX11_observe_0 1 rfl rfl ?_
  refine ct_callSi (As := [.int p1]) C (c_X11_isCell l D cy o  h) kv_X11_93 rfl rfl (Nat.le_of_ble_eq_true rfl) ⟨rfl, rfl, Nat.le_of_ble_eq_true rfl, Nat.le_of_ble_eq_true rfl⟩ ⟨Nat.zero_le _, Nat.zero_le _⟩ dX11_observe_1 (fun r2 m1 h => ?_)
  refine ct_if_ne C dX11_observe_4 9 (by decide) (fun hc3 => ?_) (fun hc3 => ?_)
  · have h := h.1 hc3
    refine ct_iload_n C dX11_observe_9 2 rfl rfl ?_
    refine ct_callSi (As := [.int p2]) C (c_X11_isValue l D cy o  h) kv_X11_155 rfl rfl (Nat.le_of_ble_eq_true rfl) ⟨rfl, rfl, Nat.le_of_ble_eq_true rfl, Nat.le_of_ble_eq_true rfl⟩ ⟨Nat.zero_le _, Nat.zero_le _⟩ dX11_observe_10 (fun r5 m4 h => ?_)
    refine ct_if_ne C dX11_observe_13 19 (by decide) (fun hc6 => ?_) (fun hc6 => ?_)
    · have h := h.1 hc6
      refine ct_aload_n C dX11_observe_19 0 rfl rfl ?_
      refine gf_X11_35 C dX11_observe_20 ka0 ?_
      have hk7 := ct_t11_7 ka0
      refine ct_iload_n C dX11_observe_23 1 rfl rfl ?_
      refine ct_iload_n C dX11_observe_24 2 rfl rfl ?_
      refine ct_callVv (As := [.int p1, .int p2]) (T := TX3) C (c_X3_add l D cy o hk7 h) kv_X11_217 hk7.1 (ct_E3 hk7) rfl rfl rfl (Nat.le_of_ble_eq_true rfl) ⟨rfl, rfl, Nat.le_of_ble_eq_true rfl, Nat.le_of_ble_eq_true rfl⟩ ⟨Nat.zero_le _, Nat.zero_le _⟩ dX11_observe_25 (fun m8 h => ?_)
      refine ct_aload_n C dX11_observe_28 0 rfl rfl ?_
      refine gf_X11_35 C dX11_observe_29 ka0 ?_
      refine gf_X11_219 C dX11_observe_32 hk7 ?_
      exact ct_ireti C hr hlk dX11_observe_35 h
    · have h := h.2 hc6
      refine ct_bipush C dX11_observe_16 (-2 : Int32) (by decide) ?_
      exact ct_ireti C hr hlk dX11_observe_18 h
  · have h := h.2 hc3
    refine ct_iconst C dX11_observe_7 (-1 : Int32) (by decide) ?_
    exact ct_ireti C hr hlk dX11_observe_8 h
abbrev rm_X10_threadsDone : Room := { frames := 0, cells := 0, slots := 0, locals := 0 }
set_option maxHeartbeats 4000000 in
set_option maxRecDepth 100000 in
theorem kb_X10_threadsDone_33 {p : Program} {l : Launch} {e : Env} {s : State} {mth : MethodId} {args : Array Value} {below : List Frame} {meth : Method} {c : Code} {D : va_G} {cy : Nat → ClassId} {o : Nat} {Q : Int32 → ct_M → Prop} {K4 : Nat → Int32 → Int32 → ct_M → Prop} {v0 : Nat} {v1 : Int32} {v2 : Int32} {m : ct_M} (C : ct_Cx p s mth c cX10_threadsDone 3 args RX10 D cy) (hr : meth.sig.returnType = (some .int)) (hlk : meth.locks = false) (hK4 : ∀ (v0 : Nat) (v1 : Int32) (v2 : Int32) (m : ct_M), ct_K 10 v0 → K4 v0 v1 v2 m → ct_J p l e rm_X10_threadsDone s mth args below meth c 3 D cy o ct_NN 0 0 (MQ below (va_Qi Q (ct_P D cy o ct_NN) (fun q => o ≤ q)) args s 0 0 (fun q => o ≤ q)) m 4 [(0, .ref (o + v0)), (1, .int v1), (2, .int v2)] []) (kv0 : ct_K 10 v0) (h : wb_X10_threadsDone_33 K4 Q v0 v1 v2 m) : ct_J p l e rm_X10_threadsDone s mth args below meth c 3 D cy o ct_NN 0 0 (MQ below (va_Qi Q (ct_P D cy o ct_NN) (fun q => o ≤ q)) args s 0 0 (fun q => o ≤ q)) m 33 [(0, .ref (o + v0)), (1, .int v1), (2, .int v2)] [] := by
  unfold wb_X10_threadsDone_33 at h
  obtain ⟨x1, ex1⟩ : ∃ z : Int32, z = v2 + (1 : Int32) := ⟨_, rfl⟩
  have h := h x1 ex1
  refine ct_iinc (k := 2) (v := x1) C dX10_threadsDone_33 [(2, .int x1), (0, .ref (o + v0)), (1, .int v1)] rfl (by rw [ex1]; rfl) (by decide) rfl ?_
  refine ct_goto C dX10_threadsDone_36 4 (by decide) ?_
  refine ct_sub [1, 2, 0] [(0, .ref (o + v0)), (1, .int v1), (2, .int x1)] rfl ?_
  exact hK4 _ _ _ _ kv0 h
set_option maxHeartbeats 4000000 in
set_option maxRecDepth 100000 in
theorem kb_X10_threadsDone_4 {p : Program} {l : Launch} {e : Env} {s : State} {mth : MethodId} {args : Array Value} {below : List Frame} {meth : Method} {c : Code} {D : va_G} {cy : Nat → ClassId} {o : Nat} {Q : Int32 → ct_M → Prop} (C : ct_Cx p s mth c cX10_threadsDone 3 args RX10 D cy) (hr : meth.sig.returnType = (some .int)) (hlk : meth.locks = false) : ∀ (n : Nat) (v0 : Nat) (v1 : Int32) (v2 : Int32) (m : ct_M) (kv0 : ct_K 10 v0), wb_X10_threadsDone_4 Q n v0 v1 v2 m → ct_J p l e rm_X10_threadsDone s mth args below meth c 3 D cy o ct_NN 0 0 (MQ below (va_Qi Q (ct_P D cy o ct_NN) (fun q => o ≤ q)) args s 0 0 (fun q => o ≤ q)) m 4 [(0, .ref (o + v0)), (1, .int v1), (2, .int v2)] [] := by
  intro n
  induction n with
  | zero => intro v0 v1 v2 m kv0 h; exact h.elim
  | succ n ih =>
    intro v0 v1 v2 m kv0 h
    unfold wb_X10_threadsDone_4 at h
    refine ct_iload_n C dX10_threadsDone_4 2 rfl rfl ?_
    refine ct_aload_n C dX10_threadsDone_5 0 rfl rfl ?_
    refine gf_X10_42 C dX10_threadsDone_6 kv0 ?_
    refine ct_icmp_ge C dX10_threadsDone_9 39 (by decide) (fun hc1 => ?_) (fun hc1 => ?_)
    · have h := h.1 hc1
      refine ct_iload_n C dX10_threadsDone_39 1 rfl rfl ?_
      exact ct_ireti C hr hlk dX10_threadsDone_40 h
    · have h := h.2 hc1
      refine ct_iload_n C dX10_threadsDone_12 2 rfl rfl ?_
      refine ct_iconst C dX10_threadsDone_13 (3 : Int32) (by decide) ?_
      refine ct_icmp_ge C dX10_threadsDone_14 39 (by decide) (fun hc2 => ?_) (fun hc2 => ?_)
      · have h := h.1 hc2
        refine ct_iload_n C dX10_threadsDone_39 1 rfl rfl ?_
        exact ct_ireti C hr hlk dX10_threadsDone_40 h
      · have h := h.2 hc2
        refine ct_aload_n C dX10_threadsDone_17 0 rfl rfl ?_
        refine gf_X10_20 C dX10_threadsDone_18 kv0 ?_
        have hk3 := ct_t10_2 kv0
        refine ct_iload_n C dX10_threadsDone_21 2 rfl rfl ?_
        refine ct_aald19 C dX10_threadsDone_22 hk3 h.1 ?_
        have hk4 := ct_e19 hk3 (ct_vin h.1)
        have h := h.2
        refine gf_X10_59 C dX10_threadsDone_23 hk4 ?_
        refine ct_iconst C dX10_threadsDone_26 (2 : Int32) (by decide) ?_
        refine ct_icmp_ne C dX10_threadsDone_27 33 (by decide) (fun hc5 => ?_) (fun hc5 => ?_)
        · have h := h.1 hc5
          refine ct_sub [0, 1, 2] [(0, .ref (o + v0)), (1, .int v1), (2, .int v2)] rfl ?_
          exact kb_X10_threadsDone_33 C hr hlk ih kv0 h
        · have h := h.2 hc5
          obtain ⟨x6, ex6⟩ : ∃ z : Int32, z = v1 + (1 : Int32) := ⟨_, rfl⟩
          have h := h x6 ex6
          refine ct_iinc (k := 1) (v := x6) C dX10_threadsDone_30 [(1, .int x6), (0, .ref (o + v0)), (2, .int v2)] rfl (by rw [ex6]; rfl) (by decide) rfl ?_
          refine ct_sub [1, 0, 2] [(0, .ref (o + v0)), (1, .int x6), (2, .int v2)] rfl ?_
          exact kb_X10_threadsDone_33 C hr hlk ih kv0 h
set_option maxHeartbeats 4000000 in
set_option maxRecDepth 100000 in
theorem c_X10_threadsDone (l : Launch) (D : va_G) (cy : Nat → ClassId) (o : Nat) {a0 : Nat} {Q : Int32 → ct_M → Prop} {m : ct_M} (ka0 : ct_K 10 a0) (h : wp_X10_threadsDone a0 Q m) : Met l yX10_threadsDone (ct_ws yX10_threadsDone cX10_threadsDone 3 (some .int)) rm_X10_threadsDone (va_Pc [.ref (o + a0)] (ct_P D cy o ct_NN m)) (va_Qi Q (ct_P D cy o ct_NN) (fun q => o ≤ q)) 0 0 (fun q => o ≤ q) := by
  refine ct_met l D cy o ct_NN m (by decide) (Nat.le_of_ble_eq_true rfl) (fun p e s mth args below meth c C hr hlk => ?_)
  refine ct_sub [0] [(0, .ref (o + a0))] rfl ?_
  unfold wp_X10_threadsDone at h
  refine ct_iconst C dX10_threadsDone_0 (0 : Int32) (by decide) ?_
  refine ct_istore_n C dX10_threadsDone_1 [(1, .int (0 : Int32)), (0, .ref (o + a0))] rfl (by decide) rfl ?_
  refine ct_iconst C dX10_threadsDone_2 (0 : Int32) (by decide) ?_
  refine ct_istore_n C dX10_threadsDone_3 [(2, .int (0 : Int32)), (1, .int (0 : Int32)), (0, .ref (o + a0))] rfl (by decide) rfl ?_
  refine ct_sub [2, 1, 0] [(0, .ref (o + a0)), (1, .int (0 : Int32)), (2, .int (0 : Int32))] rfl ?_
  obtain ⟨n1, h⟩ := h
  exact kb_X10_threadsDone_4 C hr hlk  n1 _ _ _ _ ka0 h
abbrev rm_X11_save : Room := { frames := 4, cells := 0, slots := 0, locals := 87 }
set_option maxHeartbeats 4000000 in
set_option maxRecDepth 100000 in
theorem c_X11_save (l : Launch) (D : va_G) (cy : Nat → ClassId) (o : Nat) {a0 : Nat} {p1 : Int32} {Q : Int32 → ct_M → Prop} {m : ct_M} (ka0 : ct_K 11 a0) (h : wp_X11_save a0 p1 Q m) : Met l yX11_save (ct_ws yX11_save cX11_save 2 (some .int)) rm_X11_save (va_Pc [.ref (o + a0), .int p1] (ct_P D cy o ct_NN m)) (va_Qi Q (ct_P D cy o ct_NN) (fun q => o ≤ q)) 0 0 (fun q => o ≤ q) := by
  refine ct_met l D cy o ct_NN m (by decide) (Nat.le_of_ble_eq_true rfl) (fun p e s mth args below meth c C hr hlk => ?_)
  refine ct_sub [0, 1] [(0, .ref (o + a0)), (1, .int p1)] rfl ?_
  unfold wp_X11_save at h
  refine ct_iload_n C dX11_save_0 1 rfl rfl ?_
  refine ct_if_lt C dX11_save_1 9 (by decide) (fun hc1 => ?_) (fun hc1 => ?_)
  · have h := h.1 hc1
    refine ct_iconst C dX11_save_9 (-1 : Int32) (by decide) ?_
    exact ct_ireti C hr hlk dX11_save_10 h
  · have h := h.2 hc1
    refine ct_iload_n C dX11_save_4 1 rfl rfl ?_
    refine ct_iconst C dX11_save_5 (2 : Int32) (by decide) ?_
    refine ct_icmp_lt C dX11_save_6 11 (by decide) (fun hc2 => ?_) (fun hc2 => ?_)
    · have h := h.1 hc2
      refine ct_aload_n C dX11_save_11 0 rfl rfl ?_
      refine gf_X11_24 C dX11_save_12 ka0 ?_
      have hk3 := ct_t11_4 ka0
      refine ct_iload_n C dX11_save_15 1 rfl rfl ?_
      refine ct_aald20 C dX11_save_16 hk3 h.1 ?_
      have hk4 := ct_e20 hk3 (ct_vin h.1)
      have h := h.2
      refine ct_aload_n C dX11_save_17 0 rfl rfl ?_
      refine gf_X11_43 C dX11_save_18 ka0 ?_
      have hk5 := ct_t11_2 ka0
      refine ct_callVv (As := [.ref (o + (a0 + 26))]) (T := TX10) C (c_X10_copyFrom l D cy o hk4 hk5 h) kv_X11_210 hk4.1 (ct_E10 hk4) rfl rfl rfl (Nat.le_of_ble_eq_true rfl) ⟨rfl, rfl, Nat.le_of_ble_eq_true rfl, Nat.le_of_ble_eq_true rfl⟩ ⟨Nat.zero_le _, Nat.zero_le _⟩ dX11_save_21 (fun m6 h => ?_)
      refine ct_aload_n C dX11_save_24 0 rfl rfl ?_
      refine gf_X11_28 C dX11_save_25 ka0 ?_
      have hk7 := ct_t11_5 ka0
      refine ct_iload_n C dX11_save_28 1 rfl rfl ?_
      refine ct_iconst C dX11_save_29 (1 : Int32) (by decide) ?_
      refine ct_zast C dX11_save_30 hk7 h.1 ?_
      have h := h.2
      refine ct_mem (fun m8 em8 => ?_)
      have h := h m8 em8
      refine ct_aload_n C dX11_save_31 0 rfl rfl ?_
      refine gf_X11_43 C dX11_save_32 ka0 ?_
      refine ct_callVi (As := []) (T := TX10) C (c_X10_threadsDone l D cy o hk5 h) kv_X11_220 hk5.1 (ct_E10 hk5) rfl rfl rfl (Nat.le_of_ble_eq_true rfl) ⟨rfl, rfl, Nat.le_of_ble_eq_true rfl, Nat.le_of_ble_eq_true rfl⟩ ⟨Nat.zero_le _, Nat.zero_le _⟩ dX11_save_35 (fun r10 m9 h => ?_)
      exact ct_ireti C hr hlk dX11_save_38 h
    · have h := h.2 hc2
      refine ct_iconst C dX11_save_9 (-1 : Int32) (by decide) ?_
      exact ct_ireti C hr hlk dX11_save_10 h
abbrev rm_X11_restore : Room := { frames := 4, cells := 0, slots := 0, locals := 87 }
set_option maxHeartbeats 4000000 in
set_option maxRecDepth 100000 in
theorem c_X11_restore (l : Launch) (D : va_G) (cy : Nat → ClassId) (o : Nat) {a0 : Nat} {p1 : Int32} {Q : Int32 → ct_M → Prop} {m : ct_M} (ka0 : ct_K 11 a0) (h : wp_X11_restore a0 p1 Q m) : Met l yX11_restore (ct_ws yX11_restore cX11_restore 2 (some .int)) rm_X11_restore (va_Pc [.ref (o + a0), .int p1] (ct_P D cy o ct_NN m)) (va_Qi Q (ct_P D cy o ct_NN) (fun q => o ≤ q)) 0 0 (fun q => o ≤ q) := by
  refine ct_met l D cy o ct_NN m (by decide) (Nat.le_of_ble_eq_true rfl) (fun p e s mth args below meth c C hr hlk => ?_)
  refine ct_sub [0, 1] [(0, .ref (o + a0)), (1, .int p1)] rfl ?_
  unfold wp_X11_restore at h
  refine ct_iload_n C dX11_restore_0 1 rfl rfl ?_
  refine ct_if_lt C dX11_restore_1 9 (by decide) (fun hc1 => ?_) (fun hc1 => ?_)
  · have h := h.1 hc1
    refine ct_iconst C dX11_restore_9 (-1 : Int32) (by decide) ?_
    exact ct_ireti C hr hlk dX11_restore_10 h
  · have h := h.2 hc1
    refine ct_iload_n C dX11_restore_4 1 rfl rfl ?_
    refine ct_iconst C dX11_restore_5 (2 : Int32) (by decide) ?_
    refine ct_icmp_lt C dX11_restore_6 11 (by decide) (fun hc2 => ?_) (fun hc2 => ?_)
    · have h := h.1 hc2
      refine ct_aload_n C dX11_restore_11 0 rfl rfl ?_
      refine gf_X11_28 C dX11_restore_12 ka0 ?_
      have hk3 := ct_t11_5 ka0
      refine ct_iload_n C dX11_restore_15 1 rfl rfl ?_
      refine ct_zald C dX11_restore_16 hk3 h.1 ?_
      have h := h.2
      refine ct_if_ne C dX11_restore_17 23 (by decide) (fun hc4 => ?_) (fun hc4 => ?_)
      · have h := h.1 hc4
        refine ct_aload_n C dX11_restore_23 0 rfl rfl ?_
        refine gf_X11_43 C dX11_restore_24 ka0 ?_
        have hk5 := ct_t11_2 ka0
        refine ct_aload_n C dX11_restore_27 0 rfl rfl ?_
        refine gf_X11_24 C dX11_restore_28 ka0 ?_
        have hk6 := ct_t11_4 ka0
        refine ct_iload_n C dX11_restore_31 1 rfl rfl ?_
        refine ct_aald20 C dX11_restore_32 hk6 h.1 ?_
        have hk7 := ct_e20 hk6 (ct_vin h.1)
        have h := h.2
        refine ct_callVv (As := [.ref (o + (ct_elW (a0 + 6) p1.toNatClampNeg))]) (T := TX10) C (c_X10_copyFrom l D cy o hk5 hk7 h) kv_X11_210 hk5.1 (ct_E10 hk5) rfl rfl rfl (Nat.le_of_ble_eq_true rfl) ⟨rfl, rfl, Nat.le_of_ble_eq_true rfl, Nat.le_of_ble_eq_true rfl⟩ ⟨Nat.zero_le _, Nat.zero_le _⟩ dX11_restore_33 (fun m8 h => ?_)
        refine ct_aload_n C dX11_restore_36 0 rfl rfl ?_
        refine gf_X11_50 C dX11_restore_37 ka0 ?_
        have hk9 := ct_t11_3 ka0
        refine ct_callVv (As := []) (T := TX1) C (c_X1_forgetAll l D cy o hk9 h) kv_X11_87 hk9.1 (ct_E1 hk9) rfl rfl rfl (Nat.le_of_ble_eq_true rfl) ⟨rfl, rfl, Nat.le_of_ble_eq_true rfl, Nat.le_of_ble_eq_true rfl⟩ ⟨Nat.zero_le _, Nat.zero_le _⟩ dX11_restore_40 (fun m10 h => ?_)
        refine ct_aload_n C dX11_restore_43 0 rfl rfl ?_
        refine gf_X11_43 C dX11_restore_44 ka0 ?_
        refine ct_callVi (As := []) (T := TX10) C (c_X10_threadsDone l D cy o hk5 h) kv_X11_220 hk5.1 (ct_E10 hk5) rfl rfl rfl (Nat.le_of_ble_eq_true rfl) ⟨rfl, rfl, Nat.le_of_ble_eq_true rfl, Nat.le_of_ble_eq_true rfl⟩ ⟨Nat.zero_le _, Nat.zero_le _⟩ dX11_restore_47 (fun r12 m11 h => ?_)
        exact ct_ireti C hr hlk dX11_restore_50 h
      · have h := h.2 hc4
        refine ct_bipush C dX11_restore_20 (-3 : Int32) (by decide) ?_
        exact ct_ireti C hr hlk dX11_restore_22 h
    · have h := h.2 hc2
      refine ct_iconst C dX11_restore_9 (-1 : Int32) (by decide) ?_
      exact ct_ireti C hr hlk dX11_restore_10 h
abbrev rm_X12_in : Room := { frames := 0, cells := 0, slots := 0, locals := 0 }
set_option maxHeartbeats 4000000 in
set_option maxRecDepth 100000 in
theorem c_X12_in (l : Launch) (D : va_G) (cy : Nat → ClassId) (o : Nat) {p0 : Int64} {p2 : Int64} {p4 : Int64} {Q : Int32 → ct_M → Prop} {m : ct_M} (h : wp_X12_in p0 p2 p4 Q m) : Met l yX12_in (ct_ws yX12_in cX12_in 6 (some .boolean)) rm_X12_in (va_Pc [.long p0, .long p2, .long p4] (ct_P D cy o ct_NN m)) (va_Qi Q (ct_P D cy o ct_NN) (fun q => o ≤ q)) 0 0 (fun q => o ≤ q) := by
  refine ct_met l D cy o ct_NN m (by decide) (Nat.le_of_ble_eq_true rfl) (fun p e s mth args below meth c C hr hlk => ?_)
  refine ct_sub [0, 1, 2] [(0, .long p0), (2, .long p2), (4, .long p4)] rfl ?_
  unfold wp_X12_in at h
  refine ct_lload_n C dX12_in_0 0 rfl rfl ?_
  refine ct_lload_n C dX12_in_1 1 rfl rfl ?_
  refine ct_lcmp C dX12_in_2 ?_
  refine ct_if_lt C dX12_in_3 17 (by decide) (fun hc1 => ?_) (fun hc1 => ?_)
  · have h := h.1 hc1
    refine ct_iconst C dX12_in_17 (0 : Int32) (by decide) ?_
    exact ct_zret C hr hlk dX12_in_18 (by decide) h
  · have h := h.2 hc1
    refine ct_lload_n C dX12_in_6 0 rfl rfl ?_
    refine ct_lload C dX12_in_7 2 rfl ?_
    refine ct_lcmp C dX12_in_9 ?_
    refine ct_if_gt C dX12_in_10 17 (by decide) (fun hc2 => ?_) (fun hc2 => ?_)
    · have h := h.1 hc2
      refine ct_iconst C dX12_in_17 (0 : Int32) (by decide) ?_
      exact ct_zret C hr hlk dX12_in_18 (by decide) h
    · have h := h.2 hc2
      refine ct_iconst C dX12_in_13 (1 : Int32) (by decide) ?_
      refine ct_goto C dX12_in_14 18 (by decide) ?_
      exact ct_zret C hr hlk dX12_in_18 (by decide) h
abbrev rm_X12_has : Room := { frames := 0, cells := 0, slots := 0, locals := 0 }
set_option maxHeartbeats 4000000 in
set_option maxRecDepth 100000 in
theorem c_X12_has (l : Launch) (D : va_G) (cy : Nat → ClassId) (o : Nat) {p0 : Int32} {p1 : Int32} {Q : Int32 → ct_M → Prop} {m : ct_M} (h : wp_X12_has p0 p1 Q m) : Met l yX12_has (ct_ws yX12_has cX12_has 2 (some .boolean)) rm_X12_has (va_Pc [.int p0, .int p1] (ct_P D cy o ct_NN m)) (va_Qi Q (ct_P D cy o ct_NN) (fun q => o ≤ q)) 0 0 (fun q => o ≤ q) := by
  refine ct_met l D cy o ct_NN m (by decide) (Nat.le_of_ble_eq_true rfl) (fun p e s mth args below meth c C hr hlk => ?_)
  refine ct_sub [0, 1] [(0, .int p0), (1, .int p1)] rfl ?_
  unfold wp_X12_has at h
  refine ct_iload_n C dX12_has_0 0 rfl rfl ?_
  refine ct_iload_n C dX12_has_1 1 rfl rfl ?_
  refine ct_ishr C dX12_has_2 ?_
  refine ct_iconst C dX12_has_3 (1 : Int32) (by decide) ?_
  refine ct_iand C dX12_has_4 ?_
  refine ct_iconst C dX12_has_5 (1 : Int32) (by decide) ?_
  refine ct_icmp_ne C dX12_has_6 13 (by decide) (fun hc1 => ?_) (fun hc1 => ?_)
  · have h := h.1 hc1
    refine ct_iconst C dX12_has_13 (0 : Int32) (by decide) ?_
    exact ct_zret C hr hlk dX12_has_14 (by decide) h
  · have h := h.2 hc1
    refine ct_iconst C dX12_has_9 (1 : Int32) (by decide) ?_
    refine ct_goto C dX12_has_10 14 (by decide) ?_
    exact ct_zret C hr hlk dX12_has_14 (by decide) h
abbrev rm_X12_clamp : Room := { frames := 0, cells := 0, slots := 0, locals := 0 }
set_option maxHeartbeats 4000000 in
set_option maxRecDepth 100000 in
theorem c_X12_clamp (l : Launch) (D : va_G) (cy : Nat → ClassId) (o : Nat) {p0 : Int32} {Q : Int32 → ct_M → Prop} {m : ct_M} (h : wp_X12_clamp p0 Q m) : Met l yX12_clamp (ct_ws yX12_clamp cX12_clamp 1 (some .int)) rm_X12_clamp (va_Pc [.int p0] (ct_P D cy o ct_NN m)) (va_Qi Q (ct_P D cy o ct_NN) (fun q => o ≤ q)) 0 0 (fun q => o ≤ q) := by
  refine ct_met l D cy o ct_NN m (by decide) (Nat.le_of_ble_eq_true rfl) (fun p e s mth args below meth c C hr hlk => ?_)
  refine ct_sub [0] [(0, .int p0)] rfl ?_
  unfold wp_X12_clamp at h
  refine ct_iload_n C dX12_clamp_0 0 rfl rfl ?_
  refine ct_bipush C dX12_clamp_1 (99 : Int32) (by decide) ?_
  refine ct_icmp_le C dX12_clamp_3 11 (by decide) (fun hc1 => ?_) (fun hc1 => ?_)
  · have h := h.1 hc1
    refine ct_iload_n C dX12_clamp_11 0 rfl rfl ?_
    refine ct_bipush C dX12_clamp_12 (-99 : Int32) (by decide) ?_
    refine ct_icmp_ge C dX12_clamp_14 22 (by decide) (fun hc2 => ?_) (fun hc2 => ?_)
    · have h := h.1 hc2
      refine ct_iload_n C dX12_clamp_22 0 rfl rfl ?_
      exact ct_ireti C hr hlk dX12_clamp_23 h
    · have h := h.2 hc2
      refine ct_bipush C dX12_clamp_17 (-99 : Int32) (by decide) ?_
      refine ct_goto C dX12_clamp_19 23 (by decide) ?_
      exact ct_ireti C hr hlk dX12_clamp_23 h
  · have h := h.2 hc1
    refine ct_bipush C dX12_clamp_6 (99 : Int32) (by decide) ?_
    refine ct_goto C dX12_clamp_8 23 (by decide) ?_
    exact ct_ireti C hr hlk dX12_clamp_23 h
abbrev rm_X12_assign : Room := { frames := 0, cells := 0, slots := 0, locals := 0 }
set_option maxHeartbeats 4000000 in
set_option maxRecDepth 100000 in
theorem kb_X12_assign_2 {p : Program} {l : Launch} {e : Env} {s : State} {mth : MethodId} {args : Array Value} {below : List Frame} {meth : Method} {c : Code} {D : va_G} {cy : Nat → ClassId} {o : Nat} {Q : ct_M → Prop} (C : ct_Cx p s mth c cX12_assign 3 args RX12 D cy) (hr : meth.sig.returnType = none) (hlk : meth.locks = false) : ∀ (n : Nat) (v0 : Nat) (v1 : Nat) (v2 : Int32) (m : ct_M) (kv0 : ct_K 14 v0) (kv1 : ct_K 14 v1), wb_X12_assign_2 Q n v0 v1 v2 m → ct_J p l e rm_X12_assign s mth args below meth c 3 D cy o ct_NN 0 0 (MQ below (va_Qv Q (ct_P D cy o ct_NN) (fun q => o ≤ q)) args s 0 0 (fun q => o ≤ q)) m 2 [(0, .ref (o + v0)), (1, .ref (o + v1)), (2, .int v2)] [] := by
  intro n
  induction n with
  | zero => intro v0 v1 v2 m kv0 kv1 h; exact h.elim
  | succ n ih =>
    intro v0 v1 v2 m kv0 kv1 h
    unfold wb_X12_assign_2 at h
    refine ct_iload_n C dX12_assign_2 2 rfl rfl ?_
    refine ct_sipush C dX12_assign_3 (172 : Int32) (by decide) ?_
    refine ct_icmp_ge C dX12_assign_6 21 (by decide) (fun hc1 => ?_) (fun hc1 => ?_)
    · have h := h.1 hc1
      exact ct_vret C hr hlk dX12_assign_21 h
    · have h := h.2 hc1
      refine ct_aload_n C dX12_assign_9 1 rfl rfl ?_
      refine ct_iload_n C dX12_assign_10 2 rfl rfl ?_
      refine ct_aload_n C dX12_assign_11 0 rfl rfl ?_
      refine ct_iload_n C dX12_assign_12 2 rfl rfl ?_
      refine ct_iald C dX12_assign_13 kv0 h.1 ?_
      have h := h.2
      refine ct_iast C dX12_assign_14 kv1 h.1 ?_
      have h := h.2
      refine ct_mem (fun m2 em2 => ?_)
      have h := h m2 em2
      obtain ⟨x3, ex3⟩ : ∃ z : Int32, z = v2 + (1 : Int32) := ⟨_, rfl⟩
      have h := h x3 ex3
      refine ct_iinc (k := 2) (v := x3) C dX12_assign_15 [(2, .int x3), (0, .ref (o + v0)), (1, .ref (o + v1))] rfl (by rw [ex3]; rfl) (by decide) rfl ?_
      refine ct_goto C dX12_assign_18 2 (by decide) ?_
      refine ct_sub [1, 2, 0] [(0, .ref (o + v0)), (1, .ref (o + v1)), (2, .int x3)] rfl ?_
      exact ih _ _ _ _ kv0 kv1 h
set_option maxHeartbeats 4000000 in
set_option maxRecDepth 100000 in
theorem c_X12_assign (l : Launch) (D : va_G) (cy : Nat → ClassId) (o : Nat) {a0 : Nat} {a1 : Nat} {Q : ct_M → Prop} {m : ct_M} (ka0 : ct_K 14 a0) (ka1 : ct_K 14 a1) (h : wp_X12_assign a0 a1 Q m) : Met l yX12_assign (ct_ws yX12_assign cX12_assign 3 none) rm_X12_assign (va_Pc [.ref (o + a0), .ref (o + a1)] (ct_P D cy o ct_NN m)) (va_Qv Q (ct_P D cy o ct_NN) (fun q => o ≤ q)) 0 0 (fun q => o ≤ q) := by
  refine ct_met l D cy o ct_NN m (by decide) (Nat.le_of_ble_eq_true rfl) (fun p e s mth args below meth c C hr hlk => ?_)
  refine ct_sub [0, 1] [(0, .ref (o + a0)), (1, .ref (o + a1))] rfl ?_
  unfold wp_X12_assign at h
  refine ct_iconst C dX12_assign_0 (0 : Int32) (by decide) ?_
  refine ct_istore_n C dX12_assign_1 [(2, .int (0 : Int32)), (0, .ref (o + a0)), (1, .ref (o + a1))] rfl (by decide) rfl ?_
  refine ct_sub [1, 2, 0] [(0, .ref (o + a0)), (1, .ref (o + a1)), (2, .int (0 : Int32))] rfl ?_
  obtain ⟨n1, h⟩ := h
  exact kb_X12_assign_2 C hr hlk  n1 _ _ _ _ ka0 ka1 h
abbrev rm_X12_at : Room := { frames := 0, cells := 0, slots := 0, locals := 0 }
set_option maxHeartbeats 4000000 in
set_option maxRecDepth 100000 in
theorem c_X12_at (l : Launch) (D : va_G) (cy : Nat → ClassId) (o : Nat) {p0 : Int32} {Q : Int32 → ct_M → Prop} {m : ct_M} (h : wp_X12_at p0 Q m) : Met l yX12_at (ct_ws yX12_at cX12_at 1 (some .int)) rm_X12_at (va_Pc [.int p0] (ct_P D cy o ct_NN m)) (va_Qi Q (ct_P D cy o ct_NN) (fun q => o ≤ q)) 0 0 (fun q => o ≤ q) := by
  refine ct_met l D cy o ct_NN m (by decide) (Nat.le_of_ble_eq_true rfl) (fun p e s mth args below meth c C hr hlk => ?_)
  refine ct_sub [0] [(0, .int p0)] rfl ?_
  unfold wp_X12_at at h
  refine ct_bipush C dX12_at_0 (25 : Int32) (by decide) ?_
  refine ct_bipush C dX12_at_2 (49 : Int32) (by decide) ?_
  refine ct_iload_n C dX12_at_4 0 rfl rfl ?_
  refine ct_imul C dX12_at_5 ?_
  refine ct_iadd C dX12_at_6 ?_
  exact ct_ireti C hr hlk dX12_at_7 h
abbrev rm_X12_begin : Room := { frames := 1, cells := 0, slots := 0, locals := 20 }
set_option maxHeartbeats 4000000 in
set_option maxRecDepth 100000 in
theorem kb_X12_begin_2 {p : Program} {l : Launch} {e : Env} {s : State} {mth : MethodId} {args : Array Value} {below : List Frame} {meth : Method} {c : Code} {D : va_G} {cy : Nat → ClassId} {o : Nat} {Q : ct_M → Prop} (C : ct_Cx p s mth c cX12_begin 3 args RX12 D cy) (hr : meth.sig.returnType = none) (hlk : meth.locks = false) : ∀ (n : Nat) (v0 : Nat) (v1 : Int32) (v2 : Int32) (m : ct_M) (kv0 : ct_K 14 v0), wb_X12_begin_2 Q n v0 v1 v2 m → ct_J p l e rm_X12_begin s mth args below meth c 3 D cy o ct_NN 0 0 (MQ below (va_Qv Q (ct_P D cy o ct_NN) (fun q => o ≤ q)) args s 0 0 (fun q => o ≤ q)) m 2 [(0, .ref (o + v0)), (1, .int v1), (2, .int v2)] [] := by
  intro n
  induction n with
  | zero => intro v0 v1 v2 m kv0 h; exact h.elim
  | succ n ih =>
    intro v0 v1 v2 m kv0 h
    unfold wb_X12_begin_2 at h
    refine ct_iload_n C dX12_begin_2 2 rfl rfl ?_
    refine ct_bipush C dX12_begin_3 (47 : Int32) (by decide) ?_
    refine ct_icmp_ge C dX12_begin_5 23 (by decide) (fun hc1 => ?_) (fun hc1 => ?_)
    · have h := h.1 hc1
      exact ct_vret C hr hlk dX12_begin_23 h
    · have h := h.2 hc1
      refine ct_aload_n C dX12_begin_8 0 rfl rfl ?_
      refine ct_iload_n C dX12_begin_9 1 rfl rfl ?_
      refine ct_callSi (As := [.int v1]) C (c_X12_at l D cy o  h) kv_X12_88 rfl rfl (Nat.le_of_ble_eq_true rfl) ⟨rfl, rfl, Nat.le_of_ble_eq_true rfl, Nat.le_of_ble_eq_true rfl⟩ ⟨Nat.zero_le _, Nat.zero_le _⟩ dX12_begin_10 (fun r3 m2 h => ?_)
      refine ct_iload_n C dX12_begin_13 2 rfl rfl ?_
      refine ct_iadd C dX12_begin_14 ?_
      refine ct_iconst C dX12_begin_15 (0 : Int32) (by decide) ?_
      refine ct_iast C dX12_begin_16 kv0 h.1 ?_
      have h := h.2
      refine ct_mem (fun m4 em4 => ?_)
      have h := h m4 em4
      obtain ⟨x5, ex5⟩ : ∃ z : Int32, z = v2 + (1 : Int32) := ⟨_, rfl⟩
      have h := h x5 ex5
      refine ct_iinc (k := 2) (v := x5) C dX12_begin_17 [(2, .int x5), (0, .ref (o + v0)), (1, .int v1)] rfl (by rw [ex5]; rfl) (by decide) rfl ?_
      refine ct_goto C dX12_begin_20 2 (by decide) ?_
      refine ct_sub [1, 2, 0] [(0, .ref (o + v0)), (1, .int v1), (2, .int x5)] rfl ?_
      exact ih _ _ _ _ kv0 h
set_option maxHeartbeats 4000000 in
set_option maxRecDepth 100000 in
theorem c_X12_begin (l : Launch) (D : va_G) (cy : Nat → ClassId) (o : Nat) {a0 : Nat} {p1 : Int32} {Q : ct_M → Prop} {m : ct_M} (ka0 : ct_K 14 a0) (h : wp_X12_begin a0 p1 Q m) : Met l yX12_begin (ct_ws yX12_begin cX12_begin 3 none) rm_X12_begin (va_Pc [.ref (o + a0), .int p1] (ct_P D cy o ct_NN m)) (va_Qv Q (ct_P D cy o ct_NN) (fun q => o ≤ q)) 0 0 (fun q => o ≤ q) := by
  refine ct_met l D cy o ct_NN m (by decide) (Nat.le_of_ble_eq_true rfl) (fun p e s mth args below meth c C hr hlk => ?_)
  refine ct_sub [0, 1] [(0, .ref (o + a0)), (1, .int p1)] rfl ?_
  unfold wp_X12_begin at h
  refine ct_iconst C dX12_begin_0 (1 : Int32) (by decide) ?_
  refine ct_istore_n C dX12_begin_1 [(2, .int (1 : Int32)), (0, .ref (o + a0)), (1, .int p1)] rfl (by decide) rfl ?_
  refine ct_sub [1, 2, 0] [(0, .ref (o + a0)), (1, .int p1), (2, .int (1 : Int32))] rfl ?_
  obtain ⟨n1, h⟩ := h
  exact kb_X12_begin_2 C hr hlk  n1 _ _ _ _ ka0 h
abbrev rm_X12_stop : Room := { frames := 2, cells := 0, slots := 0, locals := 42 }
set_option maxHeartbeats 4000000 in
set_option maxRecDepth 100000 in
theorem c_X12_stop (l : Launch) (D : va_G) (cy : Nat → ClassId) (o : Nat) {a0 : Nat} {p1 : Int32} {p2 : Int32} {Q : ct_M → Prop} {m : ct_M} (ka0 : ct_K 14 a0) (h : wp_X12_stop a0 p1 p2 Q m) : Met l yX12_stop (ct_ws yX12_stop cX12_stop 3 none) rm_X12_stop (va_Pc [.ref (o + a0), .int p1, .int p2] (ct_P D cy o ct_NN m)) (va_Qv Q (ct_P D cy o ct_NN) (fun q => o ≤ q)) 0 0 (fun q => o ≤ q) := by
  refine ct_met l D cy o ct_NN m (by decide) (Nat.le_of_ble_eq_true rfl) (fun p e s mth args below meth c C hr hlk => ?_)
  refine ct_sub [0, 1, 2] [(0, .ref (o + a0)), (1, .int p1), (2, .int p2)] rfl ?_
  unfold wp_X12_stop at h
  refine ct_aload_n C dX12_stop_0 0 rfl rfl ?_
  refine ct_iload_n C dX12_stop_1 1 rfl rfl ?_
  refine ct_callSv (As := [.ref (o + a0), .int p1]) C (c_X12_begin l D cy o ka0 h) kv_X12_92 rfl rfl (Nat.le_of_ble_eq_true rfl) ⟨rfl, rfl, Nat.le_of_ble_eq_true rfl, Nat.le_of_ble_eq_true rfl⟩ ⟨Nat.zero_le _, Nat.zero_le _⟩ dX12_stop_2 (fun m1 h => ?_)
  refine ct_aload_n C dX12_stop_5 0 rfl rfl ?_
  refine ct_iload_n C dX12_stop_6 1 rfl rfl ?_
  refine ct_callSi (As := [.int p1]) C (c_X12_at l D cy o  h) kv_X12_88 rfl rfl (Nat.le_of_ble_eq_true rfl) ⟨rfl, rfl, Nat.le_of_ble_eq_true rfl, Nat.le_of_ble_eq_true rfl⟩ ⟨Nat.zero_le _, Nat.zero_le _⟩ dX12_stop_7 (fun r3 m2 h => ?_)
  refine ct_iconst C dX12_stop_10 (0 : Int32) (by decide) ?_
  refine ct_iadd C dX12_stop_11 ?_
  refine ct_iload_n C dX12_stop_12 2 rfl rfl ?_
  refine ct_iast C dX12_stop_13 ka0 h.1 ?_
  have h := h.2
  refine ct_mem (fun m4 em4 => ?_)
  have h := h m4 em4
  exact ct_vret C hr hlk dX12_stop_14 h
abbrev rm_X12_restart : Room := { frames := 3, cells := 0, slots := 0, locals := 64 }
set_option maxHeartbeats 4000000 in
set_option maxRecDepth 100000 in
theorem c_X12_restart (l : Launch) (D : va_G) (cy : Nat → ClassId) (o : Nat) {a0 : Nat} {p1 : Int32} {Q : Int32 → ct_M → Prop} {m : ct_M} (ka0 : ct_K 14 a0) (h : wp_X12_restart a0 p1 Q m) : Met l yX12_restart (ct_ws yX12_restart cX12_restart 2 (some .int)) rm_X12_restart (va_Pc [.ref (o + a0), .int p1] (ct_P D cy o ct_NN m)) (va_Qi Q (ct_P D cy o ct_NN) (fun q => o ≤ q)) 0 0 (fun q => o ≤ q) := by
  refine ct_met l D cy o ct_NN m (by decide) (Nat.le_of_ble_eq_true rfl) (fun p e s mth args below meth c C hr hlk => ?_)
  refine ct_sub [0, 1] [(0, .ref (o + a0)), (1, .int p1)] rfl ?_
  unfold wp_X12_restart at h
  refine ct_aload_n C dX12_restart_0 0 rfl rfl ?_
  refine ct_iload_n C dX12_restart_1 1 rfl rfl ?_
  refine ct_iconst C dX12_restart_2 (0 : Int32) (by decide) ?_
  refine ct_callSv (As := [.ref (o + a0), .int p1, .int (0 : Int32)]) C (c_X12_stop l D cy o ka0 h) kv_X12_96 rfl rfl (Nat.le_of_ble_eq_true rfl) ⟨rfl, rfl, Nat.le_of_ble_eq_true rfl, Nat.le_of_ble_eq_true rfl⟩ ⟨Nat.zero_le _, Nat.zero_le _⟩ dX12_restart_3 (fun m1 h => ?_)
  refine ct_aload_n C dX12_restart_6 0 rfl rfl ?_
  refine ct_iload_n C dX12_restart_7 1 rfl rfl ?_
  refine ct_callSi (As := [.int p1]) C (c_X12_at l D cy o  h) kv_X12_88 rfl rfl (Nat.le_of_ble_eq_true rfl) ⟨rfl, rfl, Nat.le_of_ble_eq_true rfl, Nat.le_of_ble_eq_true rfl⟩ ⟨Nat.zero_le _, Nat.zero_le _⟩ dX12_restart_8 (fun r3 m2 h => ?_)
  refine ct_bipush C dX12_restart_11 (48 : Int32) (by decide) ?_
  refine ct_iadd C dX12_restart_13 ?_
  refine ct_dup2 C dX12_restart_14 rfl rfl ?_
  refine ct_iald C dX12_restart_15 ka0 h.1 ?_
  have h := h.2
  refine ct_iconst C dX12_restart_16 (1 : Int32) (by decide) ?_
  refine ct_iadd C dX12_restart_17 ?_
  refine ct_iast C dX12_restart_18 ka0 h.1 ?_
  have h := h.2
  refine ct_mem (fun m4 em4 => ?_)
  have h := h m4 em4
  refine ct_iconst C dX12_restart_19 (2 : Int32) (by decide) ?_
  exact ct_ireti C hr hlk dX12_restart_20 h
abbrev rm_X12_isValid : Room := { frames := 1, cells := 0, slots := 0, locals := 20 }
set_option maxHeartbeats 4000000 in
set_option maxRecDepth 100000 in
theorem kb_X12_isValid_49 {p : Program} {l : Launch} {e : Env} {s : State} {mth : MethodId} {args : Array Value} {below : List Frame} {meth : Method} {c : Code} {D : va_G} {cy : Nat → ClassId} {o : Nat} {Q : Int32 → ct_M → Prop} {K4 : Nat → Int32 → Int32 → Int32 → ct_M → Prop} {v0 : Nat} {v1 : Int32} {v3 : Int32} {s0 : Int32} {m : ct_M} (C : ct_Cx p s mth c cX12_isValid 5 args RX12 D cy) (hr : meth.sig.returnType = (some .boolean)) (hlk : meth.locks = false) (hK4 : ∀ (v0 : Nat) (v1 : Int32) (v2 : Int32) (v3 : Int32) (m : ct_M), ct_K 14 v0 → K4 v0 v1 v2 v3 m → ct_J p l e rm_X12_isValid s mth args below meth c 5 D cy o ct_NN 0 0 (MQ below (va_Qi Q (ct_P D cy o ct_NN) (fun q => o ≤ q)) args s 0 0 (fun q => o ≤ q)) m 4 [(0, .ref (o + v0)), (1, .int v1), (2, .int v2), (3, .int v3)] []) (kv0 : ct_K 14 v0) (h : wb_X12_isValid_49 K4 Q v0 v1 v3 s0 m) : ct_J p l e rm_X12_isValid s mth args below meth c 5 D cy o ct_NN 0 0 (MQ below (va_Qi Q (ct_P D cy o ct_NN) (fun q => o ≤ q)) args s 0 0 (fun q => o ≤ q)) m 49 [(0, .ref (o + v0)), (1, .int v1), (3, .int v3)] [.int s0] := by
  unfold wb_X12_isValid_49 at h
  refine ct_istore_n C dX12_isValid_49 [(2, .int s0), (0, .ref (o + v0)), (1, .int v1), (3, .int v3)] rfl (by decide) rfl ?_
  obtain ⟨x1, ex1⟩ : ∃ z : Int32, z = v3 + (1 : Int32) := ⟨_, rfl⟩
  have h := h x1 ex1
  refine ct_iinc (k := 3) (v := x1) C dX12_isValid_50 [(3, .int x1), (2, .int s0), (0, .ref (o + v0)), (1, .int v1)] rfl (by rw [ex1]; rfl) (by decide) rfl ?_
  refine ct_goto C dX12_isValid_53 4 (by decide) ?_
  refine ct_sub [2, 3, 1, 0] [(0, .ref (o + v0)), (1, .int v1), (2, .int s0), (3, .int x1)] rfl ?_
  exact hK4 _ _ _ _ _ kv0 h
set_option maxHeartbeats 4000000 in
set_option maxRecDepth 100000 in
theorem kb_X12_isValid_48 {p : Program} {l : Launch} {e : Env} {s : State} {mth : MethodId} {args : Array Value} {below : List Frame} {meth : Method} {c : Code} {D : va_G} {cy : Nat → ClassId} {o : Nat} {Q : Int32 → ct_M → Prop} {K4 : Nat → Int32 → Int32 → Int32 → ct_M → Prop} {v0 : Nat} {v1 : Int32} {v3 : Int32} {m : ct_M} (C : ct_Cx p s mth c cX12_isValid 5 args RX12 D cy) (hr : meth.sig.returnType = (some .boolean)) (hlk : meth.locks = false) (hK4 : ∀ (v0 : Nat) (v1 : Int32) (v2 : Int32) (v3 : Int32) (m : ct_M), ct_K 14 v0 → K4 v0 v1 v2 v3 m → ct_J p l e rm_X12_isValid s mth args below meth c 5 D cy o ct_NN 0 0 (MQ below (va_Qi Q (ct_P D cy o ct_NN) (fun q => o ≤ q)) args s 0 0 (fun q => o ≤ q)) m 4 [(0, .ref (o + v0)), (1, .int v1), (2, .int v2), (3, .int v3)] []) (kv0 : ct_K 14 v0) (h : wb_X12_isValid_48 K4 Q v0 v1 v3 m) : ct_J p l e rm_X12_isValid s mth args below meth c 5 D cy o ct_NN 0 0 (MQ below (va_Qi Q (ct_P D cy o ct_NN) (fun q => o ≤ q)) args s 0 0 (fun q => o ≤ q)) m 48 [(0, .ref (o + v0)), (1, .int v1), (3, .int v3)] [] := by
  unfold wb_X12_isValid_48 at h
  refine ct_iconst C dX12_isValid_48 (0 : Int32) (by decide) ?_
  refine ct_sub [0, 1, 2] [(0, .ref (o + v0)), (1, .int v1), (3, .int v3)] rfl ?_
  exact kb_X12_isValid_49 C hr hlk hK4 kv0 h
set_option maxHeartbeats 4000000 in
set_option maxRecDepth 100000 in
theorem kb_X12_isValid_44 {p : Program} {l : Launch} {e : Env} {s : State} {mth : MethodId} {args : Array Value} {below : List Frame} {meth : Method} {c : Code} {D : va_G} {cy : Nat → ClassId} {o : Nat} {Q : Int32 → ct_M → Prop} {K4 : Nat → Int32 → Int32 → Int32 → ct_M → Prop} {v0 : Nat} {v1 : Int32} {v3 : Int32} {m : ct_M} (C : ct_Cx p s mth c cX12_isValid 5 args RX12 D cy) (hr : meth.sig.returnType = (some .boolean)) (hlk : meth.locks = false) (hK4 : ∀ (v0 : Nat) (v1 : Int32) (v2 : Int32) (v3 : Int32) (m : ct_M), ct_K 14 v0 → K4 v0 v1 v2 v3 m → ct_J p l e rm_X12_isValid s mth args below meth c 5 D cy o ct_NN 0 0 (MQ below (va_Qi Q (ct_P D cy o ct_NN) (fun q => o ≤ q)) args s 0 0 (fun q => o ≤ q)) m 4 [(0, .ref (o + v0)), (1, .int v1), (2, .int v2), (3, .int v3)] []) (kv0 : ct_K 14 v0) (h : wb_X12_isValid_44 K4 Q v0 v1 v3 m) : ct_J p l e rm_X12_isValid s mth args below meth c 5 D cy o ct_NN 0 0 (MQ below (va_Qi Q (ct_P D cy o ct_NN) (fun q => o ≤ q)) args s 0 0 (fun q => o ≤ q)) m 44 [(0, .ref (o + v0)), (1, .int v1), (3, .int v3)] [] := by
  unfold wb_X12_isValid_44 at h
  refine ct_iconst C dX12_isValid_44 (1 : Int32) (by decide) ?_
  refine ct_goto C dX12_isValid_45 49 (by decide) ?_
  refine ct_sub [0, 1, 2] [(0, .ref (o + v0)), (1, .int v1), (3, .int v3)] rfl ?_
  exact kb_X12_isValid_49 C hr hlk hK4 kv0 h
set_option maxHeartbeats 4000000 in
set_option maxRecDepth 100000 in
theorem kb_X12_isValid_4 {p : Program} {l : Launch} {e : Env} {s : State} {mth : MethodId} {args : Array Value} {below : List Frame} {meth : Method} {c : Code} {D : va_G} {cy : Nat → ClassId} {o : Nat} {Q : Int32 → ct_M → Prop} (C : ct_Cx p s mth c cX12_isValid 5 args RX12 D cy) (hr : meth.sig.returnType = (some .boolean)) (hlk : meth.locks = false) : ∀ (n : Nat) (v0 : Nat) (v1 : Int32) (v2 : Int32) (v3 : Int32) (m : ct_M) (kv0 : ct_K 14 v0), wb_X12_isValid_4 Q n v0 v1 v2 v3 m → ct_J p l e rm_X12_isValid s mth args below meth c 5 D cy o ct_NN 0 0 (MQ below (va_Qi Q (ct_P D cy o ct_NN) (fun q => o ≤ q)) args s 0 0 (fun q => o ≤ q)) m 4 [(0, .ref (o + v0)), (1, .int v1), (2, .int v2), (3, .int v3)] [] := by
  intro n
  induction n with
  | zero => intro v0 v1 v2 v3 m kv0 h; exact h.elim
  | succ n ih =>
    intro v0 v1 v2 v3 m kv0 h
    unfold wb_X12_isValid_4 at h
    refine ct_iload_n C dX12_isValid_4 3 rfl rfl ?_
    refine ct_bipush C dX12_isValid_5 (6 : Int32) (by decide) ?_
    refine ct_icmp_ge C dX12_isValid_7 56 (by decide) (fun hc1 => ?_) (fun hc1 => ?_)
    · have h := h.1 hc1
      refine ct_iload_n C dX12_isValid_56 2 rfl rfl ?_
      exact ct_zret C hr hlk dX12_isValid_57 h.1.1 h.2
    · have h := h.2 hc1
      refine ct_aload_n C dX12_isValid_10 0 rfl rfl ?_
      refine ct_iload_n C dX12_isValid_11 1 rfl rfl ?_
      refine ct_callSi (As := [.int v1]) C (c_X12_at l D cy o  h) kv_X12_88 rfl rfl (Nat.le_of_ble_eq_true rfl) ⟨rfl, rfl, Nat.le_of_ble_eq_true rfl, Nat.le_of_ble_eq_true rfl⟩ ⟨Nat.zero_le _, Nat.zero_le _⟩ dX12_isValid_12 (fun r3 m2 h => ?_)
      refine ct_iconst C dX12_isValid_15 (3 : Int32) (by decide) ?_
      refine ct_iadd C dX12_isValid_16 ?_
      refine ct_iload_n C dX12_isValid_17 3 rfl rfl ?_
      refine ct_iadd C dX12_isValid_18 ?_
      refine ct_iald C dX12_isValid_19 kv0 h.1 ?_
      have h := h.2
      refine ct_topi (fun x4 ex4 => ?_)
      have h := h x4 ex4
      refine ct_istore C dX12_isValid_20 [(4, .int x4), (0, .ref (o + v0)), (1, .int v1), (2, .int v2), (3, .int v3)] (by decide) rfl ?_
      refine ct_iload_n C dX12_isValid_22 3 rfl rfl ?_
      refine ct_if_eq C dX12_isValid_23 48 (by decide) (fun hc5 => ?_) (fun hc5 => ?_)
      · have h := h.1 hc5
        refine ct_sub [1, 2, 4] [(0, .ref (o + v0)), (1, .int v1), (3, .int v3)] rfl ?_
        exact kb_X12_isValid_48 C hr hlk ih kv0 h
      · have h := h.2 hc5
        refine ct_iload C dX12_isValid_26 0 rfl ?_
        refine ct_if_eq C dX12_isValid_28 44 (by decide) (fun hc6 => ?_) (fun hc6 => ?_)
        · have h := h.1 hc6
          refine ct_sub [1, 2, 4] [(0, .ref (o + v0)), (1, .int v1), (3, .int v3)] rfl ?_
          exact kb_X12_isValid_44 C hr hlk ih kv0 h
        · have h := h.2 hc6
          refine ct_iload C dX12_isValid_31 0 rfl ?_
          refine ct_aload_n C dX12_isValid_33 1 rfl rfl ?_
          refine ct_bipush C dX12_isValid_34 (6 : Int32) (by decide) ?_
          refine ct_iload_n C dX12_isValid_36 4 rfl rfl ?_
          refine ct_iadd C dX12_isValid_37 ?_
          refine ct_iald C dX12_isValid_38 kv0 h.1 ?_
          have h := h.2
          refine ct_iconst C dX12_isValid_39 (1 : Int32) (by decide) ?_
          refine ct_iadd C dX12_isValid_40 ?_
          refine ct_icmp_ne C dX12_isValid_41 48 (by decide) (fun hc7 => ?_) (fun hc7 => ?_)
          · have h := h.1 hc7
            refine ct_sub [1, 2, 4] [(0, .ref (o + v0)), (1, .int v1), (3, .int v3)] rfl ?_
            exact kb_X12_isValid_48 C hr hlk ih kv0 h
          · have h := h.2 hc7
            refine ct_sub [1, 2, 4] [(0, .ref (o + v0)), (1, .int v1), (3, .int v3)] rfl ?_
            exact kb_X12_isValid_44 C hr hlk ih kv0 h
set_option maxHeartbeats 4000000 in
set_option maxRecDepth 100000 in
theorem c_X12_isValid (l : Launch) (D : va_G) (cy : Nat → ClassId) (o : Nat) {a0 : Nat} {p1 : Int32} {Q : Int32 → ct_M → Prop} {m : ct_M} (ka0 : ct_K 14 a0) (h : wp_X12_isValid a0 p1 Q m) : Met l yX12_isValid (ct_ws yX12_isValid cX12_isValid 5 (some .boolean)) rm_X12_isValid (va_Pc [.ref (o + a0), .int p1] (ct_P D cy o ct_NN m)) (va_Qi Q (ct_P D cy o ct_NN) (fun q => o ≤ q)) 0 0 (fun q => o ≤ q) := by
  refine ct_met l D cy o ct_NN m (by decide) (Nat.le_of_ble_eq_true rfl) (fun p e s mth args below meth c C hr hlk => ?_)
  refine ct_sub [0, 1] [(0, .ref (o + a0)), (1, .int p1)] rfl ?_
  unfold wp_X12_isValid at h
  refine ct_iconst C dX12_isValid_0 (1 : Int32) (by decide) ?_
  refine ct_istore_n C dX12_isValid_1 [(2, .int (1 : Int32)), (0, .ref (o + a0)), (1, .int p1)] rfl (by decide) rfl ?_
  refine ct_iconst C dX12_isValid_2 (0 : Int32) (by decide) ?_
  refine ct_istore_n C dX12_isValid_3 [(3, .int (0 : Int32)), (2, .int (1 : Int32)), (0, .ref (o + a0)), (1, .int p1)] rfl (by decide) rfl ?_
  refine ct_sub [2, 3, 1, 0] [(0, .ref (o + a0)), (1, .int p1), (2, .int (1 : Int32)), (3, .int (0 : Int32))] rfl ?_
  obtain ⟨n1, h⟩ := h
  exact kb_X12_isValid_4 C hr hlk  n1 _ _ _ _ _ ka0 h
abbrev rm_X12_sees : Room := { frames := 1, cells := 0, slots := 0, locals := 21 }
set_option maxHeartbeats 4000000 in
set_option maxRecDepth 100000 in
theorem c_X12_sees (l : Launch) (D : va_G) (cy : Nat → ClassId) (o : Nat) {a0 : Nat} {p1 : Int32} {p2 : Int32} {Q : Int32 → ct_M → Prop} {m : ct_M} (ka0 : ct_K 14 a0) (h : wp_X12_sees a0 p1 p2 Q m) : Met l yX12_sees (ct_ws yX12_sees cX12_sees 3 (some .int)) rm_X12_sees (va_Pc [.ref (o + a0), .int p1, .int p2] (ct_P D cy o ct_NN m)) (va_Qi Q (ct_P D cy o ct_NN) (fun q => o ≤ q)) 0 0 (fun q => o ≤ q) := by
  refine ct_met l D cy o ct_NN m (by decide) (Nat.le_of_ble_eq_true rfl) (fun p e s mth args below meth c C hr hlk => ?_)
  refine ct_sub [0, 1, 2] [(0, .ref (o + a0)), (1, .int p1), (2, .int p2)] rfl ?_
  unfold wp_X12_sees at h
  refine ct_aload_n C dX12_sees_0 0 rfl rfl ?_
  refine ct_iload_n C dX12_sees_1 1 rfl rfl ?_
  refine ct_callSi (As := [.int p1]) C (c_X12_at l D cy o  h) kv_X12_88 rfl rfl (Nat.le_of_ble_eq_true rfl) ⟨rfl, rfl, Nat.le_of_ble_eq_true rfl, Nat.le_of_ble_eq_true rfl⟩ ⟨Nat.zero_le _, Nat.zero_le _⟩ dX12_sees_2 (fun r2 m1 h => ?_)
  refine ct_bipush C dX12_sees_5 (9 : Int32) (by decide) ?_
  refine ct_iadd C dX12_sees_7 ?_
  refine ct_iald C dX12_sees_8 ka0 h.1 ?_
  have h := h.2
  refine ct_iload_n C dX12_sees_9 2 rfl rfl ?_
  refine ct_callSi (As := [.int (m1.1 a0 (r2 + (9 : Int32)).toNatClampNeg), .int p2]) C (c_X12_has l D cy o  h) kv_X12_100 rfl rfl (Nat.le_of_ble_eq_true rfl) ⟨rfl, rfl, Nat.le_of_ble_eq_true rfl, Nat.le_of_ble_eq_true rfl⟩ ⟨Nat.zero_le _, Nat.zero_le _⟩ dX12_sees_10 (fun r4 m3 h => ?_)
  refine ct_if_eq C dX12_sees_13 30 (by decide) (fun hc5 => ?_) (fun hc5 => ?_)
  · have h := h.1 hc5
    refine ct_aload_n C dX12_sees_30 0 rfl rfl ?_
    refine ct_iload_n C dX12_sees_31 2 rfl rfl ?_
    refine ct_iald C dX12_sees_32 ka0 h.1 ?_
    have h := h.2
    exact ct_ireti C hr hlk dX12_sees_33 h
  · have h := h.2 hc5
    refine ct_aload_n C dX12_sees_16 0 rfl rfl ?_
    refine ct_iload_n C dX12_sees_17 1 rfl rfl ?_
    refine ct_callSi (As := [.int p1]) C (c_X12_at l D cy o  h) kv_X12_88 rfl rfl (Nat.le_of_ble_eq_true rfl) ⟨rfl, rfl, Nat.le_of_ble_eq_true rfl, Nat.le_of_ble_eq_true rfl⟩ ⟨Nat.zero_le _, Nat.zero_le _⟩ dX12_sees_18 (fun r7 m6 h => ?_)
    refine ct_bipush C dX12_sees_21 (10 : Int32) (by decide) ?_
    refine ct_iadd C dX12_sees_23 ?_
    refine ct_iload_n C dX12_sees_24 2 rfl rfl ?_
    refine ct_iadd C dX12_sees_25 ?_
    refine ct_iald C dX12_sees_26 ka0 h.1 ?_
    have h := h.2
    refine ct_goto C dX12_sees_27 33 (by decide) ?_
    exact ct_ireti C hr hlk dX12_sees_33 h
abbrev rm_X12_grow : Room := { frames := 4, cells := 0, slots := 0, locals := 85 }
set_option maxHeartbeats 4000000 in
set_option maxRecDepth 100000 in
theorem kb_X12_grow_51 {p : Program} {l : Launch} {e : Env} {s : State} {mth : MethodId} {args : Array Value} {below : List Frame} {meth : Method} {c : Code} {D : va_G} {cy : Nat → ClassId} {o : Nat} {Q : ct_M → Prop} {K12 : Nat → Nat → Int32 → Int32 → ct_M → Prop} {v0 : Nat} {v1 : Nat} {v2 : Int32} {v3 : Int32} {m : ct_M} (C : ct_Cx p s mth c cX12_grow 4 args RX12 D cy) (hr : meth.sig.returnType = none) (hlk : meth.locks = false) (hK12 : ∀ (v0 : Nat) (v1 : Nat) (v2 : Int32) (v3 : Int32) (m : ct_M), ct_K 12 v0 → ct_K 14 v1 → K12 v0 v1 v2 v3 m → ct_J p l e rm_X12_grow s mth args below meth c 4 D cy o ct_NN 0 0 (MQ below (va_Qv Q (ct_P D cy o ct_NN) (fun q => o ≤ q)) args s 0 0 (fun q => o ≤ q)) m 12 [(0, .ref (o + v0)), (1, .ref (o + v1)), (2, .int v2), (3, .int v3)] []) (kv0 : ct_K 12 v0) (kv1 : ct_K 14 v1) (h : wb_X12_grow_51 K12 Q v0 v1 v2 v3 m) : ct_J p l e rm_X12_grow s mth args below meth c 4 D cy o ct_NN 0 0 (MQ below (va_Qv Q (ct_P D cy o ct_NN) (fun q => o ≤ q)) args s 0 0 (fun q => o ≤ q)) m 51 [(0, .ref (o + v0)), (1, .ref (o + v1)), (2, .int v2), (3, .int v3)] [] := by
  unfold wb_X12_grow_51 at h
  obtain ⟨x1, ex1⟩ : ∃ z : Int32, z = v3 + (1 : Int32) := ⟨_, rfl⟩
  have h := h x1 ex1
  refine ct_iinc (k := 3) (v := x1) C dX12_grow_51 [(3, .int x1), (0, .ref (o + v0)), (1, .ref (o + v1)), (2, .int v2)] rfl (by rw [ex1]; rfl) (by decide) rfl ?_
  refine ct_goto C dX12_grow_54 12 (by decide) ?_
  refine ct_sub [1, 2, 3, 0] [(0, .ref (o + v0)), (1, .ref (o + v1)), (2, .int v2), (3, .int x1)] rfl ?_
  exact hK12 _ _ _ _ _ kv0 kv1 h
set_option maxHeartbeats 4000000 in
set_option maxRecDepth 100000 in
theorem kb_X12_grow_12 {p : Program} {l : Launch} {e : Env} {s : State} {mth : MethodId} {args : Array Value} {below : List Frame} {meth : Method} {c : Code} {D : va_G} {cy : Nat → ClassId} {o : Nat} {Q : ct_M → Prop} (C : ct_Cx p s mth c cX12_grow 4 args RX12 D cy) (hr : meth.sig.returnType = none) (hlk : meth.locks = false) : ∀ (n : Nat) (v0 : Nat) (v1 : Nat) (v2 : Int32) (v3 : Int32) (m : ct_M) (kv0 : ct_K 12 v0) (kv1 : ct_K 14 v1), wb_X12_grow_12 Q n v0 v1 v2 v3 m → ct_J p l e rm_X12_grow s mth args below meth c 4 D cy o ct_NN 0 0 (MQ below (va_Qv Q (ct_P D cy o ct_NN) (fun q => o ≤ q)) args s 0 0 (fun q => o ≤ q)) m 12 [(0, .ref (o + v0)), (1, .ref (o + v1)), (2, .int v2), (3, .int v3)] [] := by
  intro n
  induction n with
  | zero => intro v0 v1 v2 v3 m kv0 kv1 h; exact h.elim
  | succ n ih =>
    intro v0 v1 v2 v3 m kv0 kv1 h
    unfold wb_X12_grow_12 at h
    refine ct_iload_n C dX12_grow_12 3 rfl rfl ?_
    refine ct_aload_n C dX12_grow_13 0 rfl rfl ?_
    refine gf_X12_13 C dX12_grow_14 kv0 ?_
    refine ct_icmp_ge C dX12_grow_17 57 (by decide) (fun hc1 => ?_) (fun hc1 => ?_)
    · have h := h.1 hc1
      exact ct_vret C hr hlk dX12_grow_57 h
    · have h := h.2 hc1
      refine ct_aload_n C dX12_grow_20 1 rfl rfl ?_
      refine ct_iload_n C dX12_grow_21 3 rfl rfl ?_
      refine ct_callSi (As := [.int v3]) C (c_X12_at l D cy o  h) kv_X12_88 rfl rfl (Nat.le_of_ble_eq_true rfl) ⟨rfl, rfl, Nat.le_of_ble_eq_true rfl, Nat.le_of_ble_eq_true rfl⟩ ⟨Nat.zero_le _, Nat.zero_le _⟩ dX12_grow_22 (fun r3 m2 h => ?_)
      refine ct_iconst C dX12_grow_25 (0 : Int32) (by decide) ?_
      refine ct_iadd C dX12_grow_26 ?_
      refine ct_iald C dX12_grow_27 kv1 h.1 ?_
      have h := h.2
      refine ct_iconst C dX12_grow_28 (1 : Int32) (by decide) ?_
      refine ct_icmp_ne C dX12_grow_29 51 (by decide) (fun hc4 => ?_) (fun hc4 => ?_)
      · have h := h.1 hc4
        refine ct_sub [0, 1, 2, 3] [(0, .ref (o + v0)), (1, .ref (o + v1)), (2, .int v2), (3, .int v3)] rfl ?_
        exact kb_X12_grow_51 C hr hlk ih kv0 kv1 h
      · have h := h.2 hc4
        refine ct_aload_n C dX12_grow_32 1 rfl rfl ?_
        refine ct_iload_n C dX12_grow_33 3 rfl rfl ?_
        refine ct_callSi (As := [.int v3]) C (c_X12_at l D cy o  h) kv_X12_88 rfl rfl (Nat.le_of_ble_eq_true rfl) ⟨rfl, rfl, Nat.le_of_ble_eq_true rfl, Nat.le_of_ble_eq_true rfl⟩ ⟨Nat.zero_le _, Nat.zero_le _⟩ dX12_grow_34 (fun r6 m5 h => ?_)
        refine ct_iconst C dX12_grow_37 (3 : Int32) (by decide) ?_
        refine ct_iadd C dX12_grow_38 ?_
        refine ct_iload_n C dX12_grow_39 2 rfl rfl ?_
        refine ct_iadd C dX12_grow_40 ?_
        refine ct_iald C dX12_grow_41 kv1 h.1 ?_
        have h := h.2
        refine ct_if_le C dX12_grow_42 51 (by decide) (fun hc7 => ?_) (fun hc7 => ?_)
        · have h := h.1 hc7
          refine ct_sub [0, 1, 2, 3] [(0, .ref (o + v0)), (1, .ref (o + v1)), (2, .int v2), (3, .int v3)] rfl ?_
          exact kb_X12_grow_51 C hr hlk ih kv0 kv1 h
        · have h := h.2 hc7
          refine ct_aload_n C dX12_grow_45 1 rfl rfl ?_
          refine ct_iload_n C dX12_grow_46 3 rfl rfl ?_
          refine ct_callSi (As := [.ref (o + v1), .int v3]) C (c_X12_restart l D cy o kv1 h) kv_X12_104 rfl rfl (Nat.le_of_ble_eq_true rfl) ⟨rfl, rfl, Nat.le_of_ble_eq_true rfl, Nat.le_of_ble_eq_true rfl⟩ ⟨Nat.zero_le _, Nat.zero_le _⟩ dX12_grow_47 (fun r9 m8 h => ?_)
          refine ct_pop C dX12_grow_50 rfl ?_
          refine ct_sub [0, 1, 2, 3] [(0, .ref (o + v0)), (1, .ref (o + v1)), (2, .int v2), (3, .int v3)] rfl ?_
          exact kb_X12_grow_51 C hr hlk ih kv0 kv1 h
set_option maxHeartbeats 4000000 in
set_option maxRecDepth 100000 in
theorem c_X12_grow (l : Launch) (D : va_G) (cy : Nat → ClassId) (o : Nat) {a0 : Nat} {a1 : Nat} {p2 : Int32} {Q : ct_M → Prop} {m : ct_M} (ka0 : ct_K 12 a0) (ka1 : ct_K 14 a1) (h : wp_X12_grow a0 a1 p2 Q m) : Met l yX12_grow (ct_ws yX12_grow cX12_grow 4 none) rm_X12_grow (va_Pc [.ref (o + a0), .ref (o + a1), .int p2] (ct_P D cy o ct_NN m)) (va_Qv Q (ct_P D cy o ct_NN) (fun q => o ≤ q)) 0 0 (fun q => o ≤ q) := by
  refine ct_met l D cy o ct_NN m (by decide) (Nat.le_of_ble_eq_true rfl) (fun p e s mth args below meth c C hr hlk => ?_)
  refine ct_sub [0, 1, 2] [(0, .ref (o + a0)), (1, .ref (o + a1)), (2, .int p2)] rfl ?_
  unfold wp_X12_grow at h
  refine ct_aload_n C dX12_grow_0 1 rfl rfl ?_
  refine ct_bipush C dX12_grow_1 (6 : Int32) (by decide) ?_
  refine ct_iload_n C dX12_grow_3 2 rfl rfl ?_
  refine ct_iadd C dX12_grow_4 ?_
  refine ct_dup2 C dX12_grow_5 rfl rfl ?_
  refine ct_iald C dX12_grow_6 ka1 h.1 ?_
  have h := h.2
  refine ct_iconst C dX12_grow_7 (1 : Int32) (by decide) ?_
  refine ct_iadd C dX12_grow_8 ?_
  refine ct_iast C dX12_grow_9 ka1 h.1 ?_
  have h := h.2
  refine ct_mem (fun m1 em1 => ?_)
  have h := h m1 em1
  refine ct_iconst C dX12_grow_10 (0 : Int32) (by decide) ?_
  refine ct_istore_n C dX12_grow_11 [(3, .int (0 : Int32)), (0, .ref (o + a0)), (1, .ref (o + a1)), (2, .int p2)] rfl (by decide) rfl ?_
  refine ct_sub [1, 2, 3, 0] [(0, .ref (o + a0)), (1, .ref (o + a1)), (2, .int p2), (3, .int (0 : Int32))] rfl ?_
  obtain ⟨n2, h⟩ := h
  exact kb_X12_grow_12 C hr hlk  n2 _ _ _ _ _ ka0 ka1 h
abbrev rm_X12_commit : Room := { frames := 5, cells := 0, slots := 0, locals := 108 }
set_option maxHeartbeats 4000000 in
set_option maxRecDepth 100000 in
theorem kb_X12_commit_177 {p : Program} {l : Launch} {e : Env} {s : State} {mth : MethodId} {args : Array Value} {below : List Frame} {meth : Method} {c : Code} {D : va_G} {cy : Nat → ClassId} {o : Nat} {Q : Int32 → ct_M → Prop} {K151 : Nat → Nat → Int32 → ct_M → Prop} {v0 : Nat} {v1 : Nat} {v4 : Int32} {m : ct_M} (C : ct_Cx p s mth c cX12_commit 5 args RX12 D cy) (hr : meth.sig.returnType = (some .int)) (hlk : meth.locks = false) (hK151 : ∀ (v0 : Nat) (v1 : Nat) (v4 : Int32) (m : ct_M), ct_K 12 v0 → ct_K 14 v1 → K151 v0 v1 v4 m → ct_J p l e rm_X12_commit s mth args below meth c 5 D cy o ct_NN 0 0 (MQ below (va_Qi Q (ct_P D cy o ct_NN) (fun q => o ≤ q)) args s 0 0 (fun q => o ≤ q)) m 151 [(0, .ref (o + v0)), (1, .ref (o + v1)), (4, .int v4)] []) (kv0 : ct_K 12 v0) (kv1 : ct_K 14 v1) (h : wb_X12_commit_177 K151 Q v0 v1 v4 m) : ct_J p l e rm_X12_commit s mth args below meth c 5 D cy o ct_NN 0 0 (MQ below (va_Qi Q (ct_P D cy o ct_NN) (fun q => o ≤ q)) args s 0 0 (fun q => o ≤ q)) m 177 [(0, .ref (o + v0)), (1, .ref (o + v1)), (4, .int v4)] [] := by
  unfold wb_X12_commit_177 at h
  obtain ⟨x1, ex1⟩ : ∃ z : Int32, z = v4 + (1 : Int32) := ⟨_, rfl⟩
  have h := h x1 ex1
  refine ct_iinc (k := 2) (v := x1) C dX12_commit_177 [(4, .int x1), (0, .ref (o + v0)), (1, .ref (o + v1))] rfl (by rw [ex1]; rfl) (by decide) rfl ?_
  refine ct_goto C dX12_commit_180 151 (by decide) ?_
  refine ct_sub [1, 2, 0] [(0, .ref (o + v0)), (1, .ref (o + v1)), (4, .int x1)] rfl ?_
  exact hK151 _ _ _ _ kv0 kv1 h
set_option maxHeartbeats 4000000 in
set_option maxRecDepth 100000 in
theorem kb_X12_commit_151 {p : Program} {l : Launch} {e : Env} {s : State} {mth : MethodId} {args : Array Value} {below : List Frame} {meth : Method} {c : Code} {D : va_G} {cy : Nat → ClassId} {o : Nat} {Q : Int32 → ct_M → Prop} (C : ct_Cx p s mth c cX12_commit 5 args RX12 D cy) (hr : meth.sig.returnType = (some .int)) (hlk : meth.locks = false) : ∀ (n : Nat) (v0 : Nat) (v1 : Nat) (v4 : Int32) (m : ct_M) (kv0 : ct_K 12 v0) (kv1 : ct_K 14 v1), wb_X12_commit_151 Q n v0 v1 v4 m → ct_J p l e rm_X12_commit s mth args below meth c 5 D cy o ct_NN 0 0 (MQ below (va_Qi Q (ct_P D cy o ct_NN) (fun q => o ≤ q)) args s 0 0 (fun q => o ≤ q)) m 151 [(0, .ref (o + v0)), (1, .ref (o + v1)), (4, .int v4)] [] := by
  intro n
  induction n with
  | zero => intro v0 v1 v4 m kv0 kv1 h; exact h.elim
  | succ n ih =>
    intro v0 v1 v4 m kv0 kv1 h
    unfold wb_X12_commit_151 at h
    refine ct_iload C dX12_commit_151 2 rfl ?_
    refine ct_bipush C dX12_commit_153 (6 : Int32) (by decide) ?_
    refine ct_icmp_ge C dX12_commit_155 183 (by decide) (fun hc1 => ?_) (fun hc1 => ?_)
    · have h := h.1 hc1
      refine ct_iconst C dX12_commit_183 (1 : Int32) (by decide) ?_
      exact ct_ireti C hr hlk dX12_commit_184 h
    · have h := h.2 hc1
      refine ct_aload_n C dX12_commit_158 0 rfl rfl ?_
      refine gf_X12_116 C dX12_commit_159 kv0 ?_
      refine ct_iload C dX12_commit_162 2 rfl ?_
      refine ct_callSi (As := [.int (m.1 v0 29), .int v4]) C (c_X12_has l D cy o  h) kv_X12_100 rfl rfl (Nat.le_of_ble_eq_true rfl) ⟨rfl, rfl, Nat.le_of_ble_eq_true rfl, Nat.le_of_ble_eq_true rfl⟩ ⟨Nat.zero_le _, Nat.zero_le _⟩ dX12_commit_164 (fun r3 m2 h => ?_)
      refine ct_if_eq C dX12_commit_167 177 (by decide) (fun hc4 => ?_) (fun hc4 => ?_)
      · have h := h.1 hc4
        refine ct_sub [0, 1, 2] [(0, .ref (o + v0)), (1, .ref (o + v1)), (4, .int v4)] rfl ?_
        exact kb_X12_commit_177 C hr hlk ih kv0 kv1 h
      · have h := h.2 hc4
        refine ct_aload_n C dX12_commit_170 0 rfl rfl ?_
        refine ct_aload_n C dX12_commit_171 1 rfl rfl ?_
        refine ct_iload C dX12_commit_172 2 rfl ?_
        refine ct_callVv (As := [.ref (o + v1), .int v4]) (T := TX12) C (c_X12_grow l D cy o kv0 kv1 h) kv_X12_119 kv0.1 (ct_E12 kv0) rfl rfl rfl (Nat.le_of_ble_eq_true rfl) ⟨rfl, rfl, Nat.le_of_ble_eq_true rfl, Nat.le_of_ble_eq_true rfl⟩ ⟨Nat.zero_le _, Nat.zero_le _⟩ dX12_commit_174 (fun m5 h => ?_)
        refine ct_sub [0, 1, 2] [(0, .ref (o + v0)), (1, .ref (o + v1)), (4, .int v4)] rfl ?_
        exact kb_X12_commit_177 C hr hlk ih kv0 kv1 h
set_option maxHeartbeats 4000000 in
set_option maxRecDepth 100000 in
theorem kb_X12_commit_135 {p : Program} {l : Launch} {e : Env} {s : State} {mth : MethodId} {args : Array Value} {below : List Frame} {meth : Method} {c : Code} {D : va_G} {cy : Nat → ClassId} {o : Nat} {Q : Int32 → ct_M → Prop} {v0 : Nat} {v1 : Nat} {v2 : Int32} {v3 : Int32} {s0 : Int32} {s1 : Int32} {s2 : Nat} {m : ct_M} (C : ct_Cx p s mth c cX12_commit 5 args RX12 D cy) (hr : meth.sig.returnType = (some .int)) (hlk : meth.locks = false) (kv0 : ct_K 12 v0) (kv1 : ct_K 14 v1) (ks2 : ct_K 14 s2) (h : wb_X12_commit_135 Q v0 v1 v2 v3 s0 s1 s2 m) : ct_J p l e rm_X12_commit s mth args below meth c 5 D cy o ct_NN 0 0 (MQ below (va_Qi Q (ct_P D cy o ct_NN) (fun q => o ≤ q)) args s 0 0 (fun q => o ≤ q)) m 135 [(0, .ref (o + v0)), (1, .ref (o + v1)), (2, .int v2), (3, .int v3)] [.int s0, .int s1, .ref (o + s2)] := by
  unfold wb_X12_commit_135 at h
  refine ct_callSv (As := [.ref (o + s2), .int s1, .int s0]) C (c_X12_stop l D cy o ks2 h) kv_X12_96 rfl rfl (Nat.le_of_ble_eq_true rfl) ⟨rfl, rfl, Nat.le_of_ble_eq_true rfl, Nat.le_of_ble_eq_true rfl⟩ ⟨Nat.zero_le _, Nat.zero_le _⟩ dX12_commit_135 (fun m1 h => ?_)
  refine ct_aload_n C dX12_commit_138 1 rfl rfl ?_
  refine ct_iload_n C dX12_commit_139 2 rfl rfl ?_
  refine ct_callSi (As := [.int v2]) C (c_X12_at l D cy o  h) kv_X12_88 rfl rfl (Nat.le_of_ble_eq_true rfl) ⟨rfl, rfl, Nat.le_of_ble_eq_true rfl, Nat.le_of_ble_eq_true rfl⟩ ⟨Nat.zero_le _, Nat.zero_le _⟩ dX12_commit_140 (fun r3 m2 h => ?_)
  refine ct_bipush C dX12_commit_143 (47 : Int32) (by decide) ?_
  refine ct_iadd C dX12_commit_145 ?_
  refine ct_iload_n C dX12_commit_146 3 rfl rfl ?_
  refine ct_iast C dX12_commit_147 kv1 h.1 ?_
  have h := h.2
  refine ct_mem (fun m4 em4 => ?_)
  have h := h m4 em4
  refine ct_iconst C dX12_commit_148 (0 : Int32) (by decide) ?_
  refine ct_istore C dX12_commit_149 [(4, .int (0 : Int32)), (0, .ref (o + v0)), (1, .ref (o + v1)), (2, .int v2), (3, .int v3)] (by decide) rfl ?_
  refine ct_sub [1, 2, 0] [(0, .ref (o + v0)), (1, .ref (o + v1)), (4, .int (0 : Int32))] rfl ?_
  obtain ⟨n5, h⟩ := h
  exact kb_X12_commit_151 C hr hlk  n5 _ _ _ _ kv0 kv1 h
set_option maxHeartbeats 4000000 in
set_option maxRecDepth 100000 in
theorem kb_X12_commit_91 {p : Program} {l : Launch} {e : Env} {s : State} {mth : MethodId} {args : Array Value} {below : List Frame} {meth : Method} {c : Code} {D : va_G} {cy : Nat → ClassId} {o : Nat} {Q : Int32 → ct_M → Prop} (C : ct_Cx p s mth c cX12_commit 5 args RX12 D cy) (hr : meth.sig.returnType = (some .int)) (hlk : meth.locks = false) : ∀ (n : Nat) (v0 : Nat) (v1 : Nat) (v2 : Int32) (v3 : Int32) (m : ct_M) (kv0 : ct_K 12 v0) (kv1 : ct_K 14 v1), wb_X12_commit_91 Q n v0 v1 v2 v3 m → ct_J p l e rm_X12_commit s mth args below meth c 5 D cy o ct_NN 0 0 (MQ below (va_Qi Q (ct_P D cy o ct_NN) (fun q => o ≤ q)) args s 0 0 (fun q => o ≤ q)) m 91 [(0, .ref (o + v0)), (1, .ref (o + v1)), (2, .int v2), (3, .int v3)] [] := by
  intro n
  induction n with
  | zero => intro v0 v1 v2 v3 m kv0 kv1 h; exact h.elim
  | succ n ih =>
    intro v0 v1 v2 v3 m kv0 kv1 h
    unfold wb_X12_commit_91 at h
    refine ct_iload_n C dX12_commit_91 3 rfl rfl ?_
    refine ct_bipush C dX12_commit_92 (6 : Int32) (by decide) ?_
    refine ct_icmp_ge C dX12_commit_94 112 (by decide) (fun hc1 => ?_) (fun hc1 => ?_)
    · have h := h.1 hc1
      refine ct_aload_n C dX12_commit_112 1 rfl rfl ?_
      refine ct_iload_n C dX12_commit_113 2 rfl rfl ?_
      refine ct_callSi (As := [.int v2]) C (c_X12_at l D cy o  h) kv_X12_88 rfl rfl (Nat.le_of_ble_eq_true rfl) ⟨rfl, rfl, Nat.le_of_ble_eq_true rfl, Nat.le_of_ble_eq_true rfl⟩ ⟨Nat.zero_le _, Nat.zero_le _⟩ dX12_commit_114 (fun r3 m2 h => ?_)
      refine ct_bipush C dX12_commit_117 (47 : Int32) (by decide) ?_
      refine ct_iadd C dX12_commit_119 ?_
      refine ct_iald C dX12_commit_120 kv1 h.1 ?_
      have h := h.2
      refine ct_iconst C dX12_commit_121 (1 : Int32) (by decide) ?_
      refine ct_isub C dX12_commit_122 ?_
      refine ct_topi (fun x4 ex4 => ?_)
      have h := h x4 ex4
      refine ct_istore_n C dX12_commit_123 [(3, .int x4), (0, .ref (o + v0)), (1, .ref (o + v1)), (2, .int v2)] rfl (by decide) rfl ?_
      refine ct_aload_n C dX12_commit_124 2 rfl rfl ?_
      refine ct_iload_n C dX12_commit_125 3 rfl rfl ?_
      refine ct_iload_n C dX12_commit_126 0 rfl rfl ?_
      refine ct_if_ne C dX12_commit_127 134 (by decide) (fun hc5 => ?_) (fun hc5 => ?_)
      · have h := h.1 hc5
        refine ct_iconst C dX12_commit_134 (0 : Int32) (by decide) ?_
        refine ct_sub [1, 2, 3, 0] [(0, .ref (o + v0)), (1, .ref (o + v1)), (2, .int v2), (3, .int x4)] rfl ?_
        exact kb_X12_commit_135 C hr hlk  kv0 kv1 kv1 h
      · have h := h.2 hc5
        refine ct_iconst C dX12_commit_130 (2 : Int32) (by decide) ?_
        refine ct_goto C dX12_commit_131 135 (by decide) ?_
        refine ct_sub [1, 2, 3, 0] [(0, .ref (o + v0)), (1, .ref (o + v1)), (2, .int v2), (3, .int x4)] rfl ?_
        exact kb_X12_commit_135 C hr hlk  kv0 kv1 kv1 h
    · have h := h.2 hc1
      refine ct_aload_n C dX12_commit_97 1 rfl rfl ?_
      refine ct_iload_n C dX12_commit_98 3 rfl rfl ?_
      refine ct_aload_n C dX12_commit_99 1 rfl rfl ?_
      refine ct_iload_n C dX12_commit_100 2 rfl rfl ?_
      refine ct_iload_n C dX12_commit_101 3 rfl rfl ?_
      refine ct_callSi (As := [.ref (o + v1), .int v2, .int v3]) C (c_X12_sees l D cy o kv1 h) kv_X12_112 rfl rfl (Nat.le_of_ble_eq_true rfl) ⟨rfl, rfl, Nat.le_of_ble_eq_true rfl, Nat.le_of_ble_eq_true rfl⟩ ⟨Nat.zero_le _, Nat.zero_le _⟩ dX12_commit_102 (fun r7 m6 h => ?_)
      refine ct_iast C dX12_commit_105 kv1 h.1 ?_
      have h := h.2
      refine ct_mem (fun m8 em8 => ?_)
      have h := h m8 em8
      obtain ⟨x9, ex9⟩ : ∃ z : Int32, z = v3 + (1 : Int32) := ⟨_, rfl⟩
      have h := h x9 ex9
      refine ct_iinc (k := 3) (v := x9) C dX12_commit_106 [(3, .int x9), (0, .ref (o + v0)), (1, .ref (o + v1)), (2, .int v2)] rfl (by rw [ex9]; rfl) (by decide) rfl ?_
      refine ct_goto C dX12_commit_109 91 (by decide) ?_
      refine ct_sub [1, 2, 3, 0] [(0, .ref (o + v0)), (1, .ref (o + v1)), (2, .int v2), (3, .int x9)] rfl ?_
      exact ih _ _ _ _ _ kv0 kv1 h
set_option maxHeartbeats 4000000 in
set_option maxRecDepth 100000 in
theorem kb_X12_commit_16 {p : Program} {l : Launch} {e : Env} {s : State} {mth : MethodId} {args : Array Value} {below : List Frame} {meth : Method} {c : Code} {D : va_G} {cy : Nat → ClassId} {o : Nat} {Q : Int32 → ct_M → Prop} (C : ct_Cx p s mth c cX12_commit 5 args RX12 D cy) (hr : meth.sig.returnType = (some .int)) (hlk : meth.locks = false) : ∀ (n : Nat) (v0 : Nat) (v1 : Nat) (v2 : Int32) (v3 : Int32) (m : ct_M) (kv0 : ct_K 12 v0) (kv1 : ct_K 14 v1), wb_X12_commit_16 Q n v0 v1 v2 v3 m → ct_J p l e rm_X12_commit s mth args below meth c 5 D cy o ct_NN 0 0 (MQ below (va_Qi Q (ct_P D cy o ct_NN) (fun q => o ≤ q)) args s 0 0 (fun q => o ≤ q)) m 16 [(0, .ref (o + v0)), (1, .ref (o + v1)), (2, .int v2), (3, .int v3)] [] := by
  intro n
  induction n with
  | zero => intro v0 v1 v2 v3 m kv0 kv1 h; exact h.elim
  | succ n ih =>
    intro v0 v1 v2 v3 m kv0 kv1 h
    unfold wb_X12_commit_16 at h
    refine ct_iload_n C dX12_commit_16 3 rfl rfl ?_
    refine ct_aload_n C dX12_commit_17 1 rfl rfl ?_
    refine ct_bipush C dX12_commit_18 (12 : Int32) (by decide) ?_
    refine ct_iald C dX12_commit_20 kv1 h.1 ?_
    have h := h.2
    refine ct_icmp_ge C dX12_commit_21 76 (by decide) (fun hc1 => ?_) (fun hc1 => ?_)
    · have h := h.1 hc1
      refine ct_aload_n C dX12_commit_76 0 rfl rfl ?_
      refine ct_aload_n C dX12_commit_77 1 rfl rfl ?_
      refine ct_iload_n C dX12_commit_78 2 rfl rfl ?_
      refine ct_callSi (As := [.int v2]) C (c_X12_at l D cy o  h) kv_X12_88 rfl rfl (Nat.le_of_ble_eq_true rfl) ⟨rfl, rfl, Nat.le_of_ble_eq_true rfl, Nat.le_of_ble_eq_true rfl⟩ ⟨Nat.zero_le _, Nat.zero_le _⟩ dX12_commit_79 (fun r3 m2 h => ?_)
      refine ct_bipush C dX12_commit_82 (9 : Int32) (by decide) ?_
      refine ct_iadd C dX12_commit_84 ?_
      refine ct_iald C dX12_commit_85 kv1 h.1 ?_
      have h := h.2
      refine pf_X12_116 C dX12_commit_86 kv0 ?_
      refine ct_mem (fun m4 em4 => ?_)
      have h := h m4 em4
      refine ct_iconst C dX12_commit_89 (0 : Int32) (by decide) ?_
      refine ct_istore_n C dX12_commit_90 [(3, .int (0 : Int32)), (0, .ref (o + v0)), (1, .ref (o + v1)), (2, .int v2)] rfl (by decide) rfl ?_
      refine ct_sub [1, 2, 3, 0] [(0, .ref (o + v0)), (1, .ref (o + v1)), (2, .int v2), (3, .int (0 : Int32))] rfl ?_
      obtain ⟨n5, h⟩ := h
      exact kb_X12_commit_91 C hr hlk  n5 _ _ _ _ _ kv0 kv1 h
    · have h := h.2 hc1
      refine ct_bipush C dX12_commit_24 (13 : Int32) (by decide) ?_
      refine ct_iconst C dX12_commit_26 (3 : Int32) (by decide) ?_
      refine ct_iload_n C dX12_commit_27 3 rfl rfl ?_
      refine ct_imul C dX12_commit_28 ?_
      refine ct_iadd C dX12_commit_29 ?_
      refine ct_topi (fun x6 ex6 => ?_)
      have h := h x6 ex6
      refine ct_istore C dX12_commit_30 [(4, .int x6), (0, .ref (o + v0)), (1, .ref (o + v1)), (2, .int v2), (3, .int v3)] (by decide) rfl ?_
      refine ct_aload_n C dX12_commit_32 2 rfl rfl ?_
      refine ct_iload_n C dX12_commit_33 3 rfl rfl ?_
      refine ct_aload_n C dX12_commit_34 2 rfl rfl ?_
      refine ct_iload C dX12_commit_35 0 rfl ?_
      refine ct_iald C dX12_commit_37 kv1 h.1 ?_
      have h := h.2
      refine ct_callSi (As := [.ref (o + v1), .int v2, .int (m.1 v1 x6.toNatClampNeg)]) C (c_X12_sees l D cy o kv1 h) kv_X12_112 rfl rfl (Nat.le_of_ble_eq_true rfl) ⟨rfl, rfl, Nat.le_of_ble_eq_true rfl, Nat.le_of_ble_eq_true rfl⟩ ⟨Nat.zero_le _, Nat.zero_le _⟩ dX12_commit_38 (fun r8 m7 h => ?_)
      refine ct_aload_n C dX12_commit_41 2 rfl rfl ?_
      refine ct_iload_n C dX12_commit_42 3 rfl rfl ?_
      refine ct_aload_n C dX12_commit_43 2 rfl rfl ?_
      refine ct_iload C dX12_commit_44 0 rfl ?_
      refine ct_iconst C dX12_commit_46 (1 : Int32) (by decide) ?_
      refine ct_iadd C dX12_commit_47 ?_
      refine ct_iald C dX12_commit_48 kv1 h.1 ?_
      have h := h.2
      refine ct_callSi (As := [.ref (o + v1), .int v2, .int (m7.1 v1 (x6 + (1 : Int32)).toNatClampNeg)]) C (c_X12_sees l D cy o kv1 h) kv_X12_112 rfl rfl (Nat.le_of_ble_eq_true rfl) ⟨rfl, rfl, Nat.le_of_ble_eq_true rfl, Nat.le_of_ble_eq_true rfl⟩ ⟨Nat.zero_le _, Nat.zero_le _⟩ dX12_commit_49 (fun r10 m9 h => ?_)
      refine ct_iadd C dX12_commit_52 ?_
      refine ct_aload_n C dX12_commit_53 2 rfl rfl ?_
      refine ct_iload C dX12_commit_54 0 rfl ?_
      refine ct_iconst C dX12_commit_56 (2 : Int32) (by decide) ?_
      refine ct_iadd C dX12_commit_57 ?_
      refine ct_iald C dX12_commit_58 kv1 h.1 ?_
      have h := h.2
      refine ct_icmp_ge C dX12_commit_59 70 (by decide) (fun hc11 => ?_) (fun hc11 => ?_)
      · have h := h.1 hc11
        obtain ⟨x12, ex12⟩ : ∃ z : Int32, z = v3 + (1 : Int32) := ⟨_, rfl⟩
        have h := h x12 ex12
        refine ct_iinc (k := 4) (v := x12) C dX12_commit_70 [(3, .int x12), (4, .int x6), (0, .ref (o + v0)), (1, .ref (o + v1)), (2, .int v2)] rfl (by rw [ex12]; rfl) (by decide) rfl ?_
        refine ct_goto C dX12_commit_73 16 (by decide) ?_
        refine ct_sub [2, 3, 4, 0] [(0, .ref (o + v0)), (1, .ref (o + v1)), (2, .int v2), (3, .int x12)] rfl ?_
        exact ih _ _ _ _ _ kv0 kv1 h
      · have h := h.2 hc11
        refine ct_aload_n C dX12_commit_62 2 rfl rfl ?_
        refine ct_iload_n C dX12_commit_63 3 rfl rfl ?_
        refine ct_iconst C dX12_commit_64 (3 : Int32) (by decide) ?_
        refine ct_callSv (As := [.ref (o + v1), .int v2, .int (3 : Int32)]) C (c_X12_stop l D cy o kv1 h) kv_X12_96 rfl rfl (Nat.le_of_ble_eq_true rfl) ⟨rfl, rfl, Nat.le_of_ble_eq_true rfl, Nat.le_of_ble_eq_true rfl⟩ ⟨Nat.zero_le _, Nat.zero_le _⟩ dX12_commit_65 (fun m13 h => ?_)
        refine ct_iconst C dX12_commit_68 (4 : Int32) (by decide) ?_
        exact ct_ireti C hr hlk dX12_commit_69 h
set_option maxHeartbeats 4000000 in
set_option maxRecDepth 100000 in
theorem c_X12_commit (l : Launch) (D : va_G) (cy : Nat → ClassId) (o : Nat) {a0 : Nat} {a1 : Nat} {p2 : Int32} {Q : Int32 → ct_M → Prop} {m : ct_M} (ka0 : ct_K 12 a0) (ka1 : ct_K 14 a1) (h : wp_X12_commit a0 a1 p2 Q m) : Met l yX12_commit (ct_ws yX12_commit cX12_commit 5 (some .int)) rm_X12_commit (va_Pc [.ref (o + a0), .ref (o + a1), .int p2] (ct_P D cy o ct_NN m)) (va_Qi Q (ct_P D cy o ct_NN) (fun q => o ≤ q)) 0 0 (fun q => o ≤ q) := by
  refine ct_met l D cy o ct_NN m (by decide) (Nat.le_of_ble_eq_true rfl) (fun p e s mth args below meth c C hr hlk => ?_)
  refine ct_sub [0, 1, 2] [(0, .ref (o + a0)), (1, .ref (o + a1)), (2, .int p2)] rfl ?_
  unfold wp_X12_commit at h
  refine ct_aload_n C dX12_commit_0 1 rfl rfl ?_
  refine ct_iload_n C dX12_commit_1 2 rfl rfl ?_
  refine ct_callSi (As := [.ref (o + a1), .int p2]) C (c_X12_isValid l D cy o ka1 h) kv_X12_108 rfl rfl (Nat.le_of_ble_eq_true rfl) ⟨rfl, rfl, Nat.le_of_ble_eq_true rfl, Nat.le_of_ble_eq_true rfl⟩ ⟨Nat.zero_le _, Nat.zero_le _⟩ dX12_commit_2 (fun r2 m1 h => ?_)
  refine ct_if_ne C dX12_commit_5 14 (by decide) (fun hc3 => ?_) (fun hc3 => ?_)
  · have h := h.1 hc3
    refine ct_iconst C dX12_commit_14 (0 : Int32) (by decide) ?_
    refine ct_istore_n C dX12_commit_15 [(3, .int (0 : Int32)), (0, .ref (o + a0)), (1, .ref (o + a1)), (2, .int p2)] rfl (by decide) rfl ?_
    refine ct_sub [1, 2, 3, 0] [(0, .ref (o + a0)), (1, .ref (o + a1)), (2, .int p2), (3, .int (0 : Int32))] rfl ?_
    obtain ⟨n4, h⟩ := h
    exact kb_X12_commit_16 C hr hlk  n4 _ _ _ _ _ ka0 ka1 h
  · have h := h.2 hc3
    refine ct_aload_n C dX12_commit_8 1 rfl rfl ?_
    refine ct_iload_n C dX12_commit_9 2 rfl rfl ?_
    refine ct_callSi (As := [.ref (o + a1), .int p2]) C (c_X12_restart l D cy o ka1 h) kv_X12_104 rfl rfl (Nat.le_of_ble_eq_true rfl) ⟨rfl, rfl, Nat.le_of_ble_eq_true rfl, Nat.le_of_ble_eq_true rfl⟩ ⟨Nat.zero_le _, Nat.zero_le _⟩ dX12_commit_10 (fun r6 m5 h => ?_)
    exact ct_ireti C hr hlk dX12_commit_13 h
abbrev rm_X12_openBlock : Room := { frames := 1, cells := 0, slots := 0, locals := 20 }
set_option maxHeartbeats 4000000 in
set_option maxRecDepth 100000 in
theorem kb_X12_openBlock_47 {p : Program} {l : Launch} {e : Env} {s : State} {mth : MethodId} {args : Array Value} {below : List Frame} {meth : Method} {c : Code} {D : va_G} {cy : Nat → ClassId} {o : Nat} {Q : ct_M → Prop} (C : ct_Cx p s mth c cX12_openBlock 5 args RX12 D cy) (hr : meth.sig.returnType = none) (hlk : meth.locks = false) : ∀ (n : Nat) (v0 : Nat) (v1 : Int32) (v3 : Int32) (v4 : Int32) (m : ct_M) (kv0 : ct_K 14 v0), wb_X12_openBlock_47 Q n v0 v1 v3 v4 m → ct_J p l e rm_X12_openBlock s mth args below meth c 5 D cy o ct_NN 0 0 (MQ below (va_Qv Q (ct_P D cy o ct_NN) (fun q => o ≤ q)) args s 0 0 (fun q => o ≤ q)) m 47 [(0, .ref (o + v0)), (1, .int v1), (3, .int v3), (4, .int v4)] [] := by
  intro n
  induction n with
  | zero => intro v0 v1 v3 v4 m kv0 h; exact h.elim
  | succ n ih =>
    intro v0 v1 v3 v4 m kv0 h
    unfold wb_X12_openBlock_47 at h
    refine ct_iload C dX12_openBlock_47 3 rfl ?_
    refine ct_bipush C dX12_openBlock_49 (7 : Int32) (by decide) ?_
    refine ct_icmp_ge C dX12_openBlock_51 80 (by decide) (fun hc1 => ?_) (fun hc1 => ?_)
    · have h := h.1 hc1
      refine ct_aload_n C dX12_openBlock_80 0 rfl rfl ?_
      refine ct_iload_n C dX12_openBlock_81 1 rfl rfl ?_
      refine ct_callSi (As := [.int v1]) C (c_X12_at l D cy o  h) kv_X12_88 rfl rfl (Nat.le_of_ble_eq_true rfl) ⟨rfl, rfl, Nat.le_of_ble_eq_true rfl, Nat.le_of_ble_eq_true rfl⟩ ⟨Nat.zero_le _, Nat.zero_le _⟩ dX12_openBlock_82 (fun r3 m2 h => ?_)
      refine ct_bipush C dX12_openBlock_85 (16 : Int32) (by decide) ?_
      refine ct_iadd C dX12_openBlock_87 ?_
      refine ct_dup2 C dX12_openBlock_88 rfl rfl ?_
      refine ct_iald C dX12_openBlock_89 kv0 h.1 ?_
      have h := h.2
      refine ct_iconst C dX12_openBlock_90 (1 : Int32) (by decide) ?_
      refine ct_iadd C dX12_openBlock_91 ?_
      refine ct_iast C dX12_openBlock_92 kv0 h.1 ?_
      have h := h.2
      refine ct_mem (fun m4 em4 => ?_)
      have h := h m4 em4
      exact ct_vret C hr hlk dX12_openBlock_93 h
    · have h := h.2 hc1
      refine ct_aload_n C dX12_openBlock_54 0 rfl rfl ?_
      refine ct_iload_n C dX12_openBlock_55 2 rfl rfl ?_
      refine ct_iconst C dX12_openBlock_56 (3 : Int32) (by decide) ?_
      refine ct_iadd C dX12_openBlock_57 ?_
      refine ct_iload C dX12_openBlock_58 3 rfl ?_
      refine ct_iadd C dX12_openBlock_60 ?_
      refine ct_aload_n C dX12_openBlock_61 0 rfl rfl ?_
      refine ct_iload_n C dX12_openBlock_62 1 rfl rfl ?_
      refine ct_callSi (As := [.int v1]) C (c_X12_at l D cy o  h) kv_X12_88 rfl rfl (Nat.le_of_ble_eq_true rfl) ⟨rfl, rfl, Nat.le_of_ble_eq_true rfl, Nat.le_of_ble_eq_true rfl⟩ ⟨Nat.zero_le _, Nat.zero_le _⟩ dX12_openBlock_63 (fun r6 m5 h => ?_)
      refine ct_bipush C dX12_openBlock_66 (9 : Int32) (by decide) ?_
      refine ct_iadd C dX12_openBlock_68 ?_
      refine ct_iload C dX12_openBlock_69 3 rfl ?_
      refine ct_iadd C dX12_openBlock_71 ?_
      refine ct_iald C dX12_openBlock_72 kv0 h.1 ?_
      have h := h.2
      refine ct_iast C dX12_openBlock_73 kv0 h.1 ?_
      have h := h.2
      refine ct_mem (fun m7 em7 => ?_)
      have h := h m7 em7
      obtain ⟨x8, ex8⟩ : ∃ z : Int32, z = v4 + (1 : Int32) := ⟨_, rfl⟩
      have h := h x8 ex8
      refine ct_iinc (k := 3) (v := x8) C dX12_openBlock_74 [(4, .int x8), (0, .ref (o + v0)), (1, .int v1), (3, .int v3)] rfl (by rw [ex8]; rfl) (by decide) rfl ?_
      refine ct_goto C dX12_openBlock_77 47 (by decide) ?_
      refine ct_sub [1, 2, 3, 0] [(0, .ref (o + v0)), (1, .int v1), (3, .int v3), (4, .int x8)] rfl ?_
      exact ih _ _ _ _ _ kv0 h
set_option maxHeartbeats 4000000 in
set_option maxRecDepth 100000 in
theorem c_X12_openBlock (l : Launch) (D : va_G) (cy : Nat → ClassId) (o : Nat) {a0 : Nat} {p1 : Int32} {p2 : Int32} {Q : ct_M → Prop} {m : ct_M} (ka0 : ct_K 14 a0) (h : wp_X12_openBlock a0 p1 p2 Q m) : Met l yX12_openBlock (ct_ws yX12_openBlock cX12_openBlock 5 none) rm_X12_openBlock (va_Pc [.ref (o + a0), .int p1, .int p2] (ct_P D cy o ct_NN m)) (va_Qv Q (ct_P D cy o ct_NN) (fun q => o ≤ q)) 0 0 (fun q => o ≤ q) := by
  refine ct_met l D cy o ct_NN m (by decide) (Nat.le_of_ble_eq_true rfl) (fun p e s mth args below meth c C hr hlk => ?_)
  refine ct_sub [0, 1, 2] [(0, .ref (o + a0)), (1, .int p1), (2, .int p2)] rfl ?_
  unfold wp_X12_openBlock at h
  refine ct_iload_n C dX12_openBlock_0 1 rfl rfl ?_
  refine ct_callSi (As := [.int p1]) C (c_X12_at l D cy o  h) kv_X12_88 rfl rfl (Nat.le_of_ble_eq_true rfl) ⟨rfl, rfl, Nat.le_of_ble_eq_true rfl, Nat.le_of_ble_eq_true rfl⟩ ⟨Nat.zero_le _, Nat.zero_le _⟩ dX12_openBlock_1 (fun r2 m1 h => ?_)
  refine ct_bipush C dX12_openBlock_4 (17 : Int32) (by decide) ?_
  refine ct_iadd C dX12_openBlock_6 ?_
  refine ct_bipush C dX12_openBlock_7 (10 : Int32) (by decide) ?_
  refine ct_aload_n C dX12_openBlock_9 0 rfl rfl ?_
  refine ct_iload_n C dX12_openBlock_10 1 rfl rfl ?_
  refine ct_callSi (As := [.int p1]) C (c_X12_at l D cy o  h) kv_X12_88 rfl rfl (Nat.le_of_ble_eq_true rfl) ⟨rfl, rfl, Nat.le_of_ble_eq_true rfl, Nat.le_of_ble_eq_true rfl⟩ ⟨Nat.zero_le _, Nat.zero_le _⟩ dX12_openBlock_11 (fun r4 m3 h => ?_)
  refine ct_bipush C dX12_openBlock_14 (16 : Int32) (by decide) ?_
  refine ct_iadd C dX12_openBlock_16 ?_
  refine ct_iald C dX12_openBlock_17 ka0 h.1 ?_
  have h := h.2
  refine ct_imul C dX12_openBlock_18 ?_
  refine ct_iadd C dX12_openBlock_19 ?_
  refine ct_topi (fun x5 ex5 => ?_)
  have h := h x5 ex5
  refine ct_istore_n C dX12_openBlock_20 [(3, .int x5), (0, .ref (o + a0)), (1, .int p1), (2, .int p2)] rfl (by decide) rfl ?_
  refine ct_aload_n C dX12_openBlock_21 1 rfl rfl ?_
  refine ct_iload_n C dX12_openBlock_22 0 rfl rfl ?_
  refine ct_iload_n C dX12_openBlock_23 3 rfl rfl ?_
  refine ct_iast C dX12_openBlock_24 ka0 h.1 ?_
  have h := h.2
  refine ct_mem (fun m6 em6 => ?_)
  have h := h m6 em6
  refine ct_aload_n C dX12_openBlock_25 1 rfl rfl ?_
  refine ct_iload_n C dX12_openBlock_26 0 rfl rfl ?_
  refine ct_iconst C dX12_openBlock_27 (1 : Int32) (by decide) ?_
  refine ct_iadd C dX12_openBlock_28 ?_
  refine ct_iconst C dX12_openBlock_29 (0 : Int32) (by decide) ?_
  refine ct_iast C dX12_openBlock_30 ka0 h.1 ?_
  have h := h.2
  refine ct_mem (fun m7 em7 => ?_)
  have h := h m7 em7
  refine ct_aload_n C dX12_openBlock_31 1 rfl rfl ?_
  refine ct_iload_n C dX12_openBlock_32 0 rfl rfl ?_
  refine ct_iconst C dX12_openBlock_33 (2 : Int32) (by decide) ?_
  refine ct_iadd C dX12_openBlock_34 ?_
  refine ct_aload_n C dX12_openBlock_35 1 rfl rfl ?_
  refine ct_iload_n C dX12_openBlock_36 2 rfl rfl ?_
  refine ct_callSi (As := [.int p1]) C (c_X12_at l D cy o  h) kv_X12_88 rfl rfl (Nat.le_of_ble_eq_true rfl) ⟨rfl, rfl, Nat.le_of_ble_eq_true rfl, Nat.le_of_ble_eq_true rfl⟩ ⟨Nat.zero_le _, Nat.zero_le _⟩ dX12_openBlock_37 (fun r9 m8 h => ?_)
  refine ct_iconst C dX12_openBlock_40 (2 : Int32) (by decide) ?_
  refine ct_iadd C dX12_openBlock_41 ?_
  refine ct_iald C dX12_openBlock_42 ka0 h.1 ?_
  have h := h.2
  refine ct_iast C dX12_openBlock_43 ka0 h.1 ?_
  have h := h.2
  refine ct_mem (fun m10 em10 => ?_)
  have h := h m10 em10
  refine ct_iconst C dX12_openBlock_44 (0 : Int32) (by decide) ?_
  refine ct_istore C dX12_openBlock_45 [(4, .int (0 : Int32)), (3, .int x5), (0, .ref (o + a0)), (1, .int p1), (2, .int p2)] (by decide) rfl ?_
  refine ct_sub [2, 3, 1, 0] [(0, .ref (o + a0)), (1, .int p1), (3, .int x5), (4, .int (0 : Int32))] rfl ?_
  obtain ⟨n11, h⟩ := h
  exact kb_X12_openBlock_47 C hr hlk  n11 _ _ _ _ _ ka0 h
abbrev rm_X12_bringBack : Room := { frames := 1, cells := 0, slots := 0, locals := 20 }
set_option maxHeartbeats 4000000 in
set_option maxRecDepth 100000 in
theorem kb_X12_bringBack_15 {p : Program} {l : Launch} {e : Env} {s : State} {mth : MethodId} {args : Array Value} {below : List Frame} {meth : Method} {c : Code} {D : va_G} {cy : Nat → ClassId} {o : Nat} {Q : ct_M → Prop} (C : ct_Cx p s mth c cX12_bringBack 4 args RX12 D cy) (hr : meth.sig.returnType = none) (hlk : meth.locks = false) : ∀ (n : Nat) (v0 : Nat) (v1 : Int32) (v2 : Int32) (v3 : Int32) (m : ct_M) (kv0 : ct_K 14 v0), wb_X12_bringBack_15 Q n v0 v1 v2 v3 m → ct_J p l e rm_X12_bringBack s mth args below meth c 4 D cy o ct_NN 0 0 (MQ below (va_Qv Q (ct_P D cy o ct_NN) (fun q => o ≤ q)) args s 0 0 (fun q => o ≤ q)) m 15 [(0, .ref (o + v0)), (1, .int v1), (2, .int v2), (3, .int v3)] [] := by
  intro n
  induction n with
  | zero => intro v0 v1 v2 v3 m kv0 h; exact h.elim
  | succ n ih =>
    intro v0 v1 v2 v3 m kv0 h
    unfold wb_X12_bringBack_15 at h
    refine ct_iload_n C dX12_bringBack_15 3 rfl rfl ?_
    refine ct_bipush C dX12_bringBack_16 (7 : Int32) (by decide) ?_
    refine ct_icmp_ge C dX12_bringBack_18 45 (by decide) (fun hc1 => ?_) (fun hc1 => ?_)
    · have h := h.1 hc1
      exact ct_vret C hr hlk dX12_bringBack_45 h
    · have h := h.2 hc1
      refine ct_aload_n C dX12_bringBack_21 0 rfl rfl ?_
      refine ct_iload_n C dX12_bringBack_22 1 rfl rfl ?_
      refine ct_callSi (As := [.int v1]) C (c_X12_at l D cy o  h) kv_X12_88 rfl rfl (Nat.le_of_ble_eq_true rfl) ⟨rfl, rfl, Nat.le_of_ble_eq_true rfl, Nat.le_of_ble_eq_true rfl⟩ ⟨Nat.zero_le _, Nat.zero_le _⟩ dX12_bringBack_23 (fun r3 m2 h => ?_)
      refine ct_bipush C dX12_bringBack_26 (9 : Int32) (by decide) ?_
      refine ct_iadd C dX12_bringBack_28 ?_
      refine ct_iload_n C dX12_bringBack_29 3 rfl rfl ?_
      refine ct_iadd C dX12_bringBack_30 ?_
      refine ct_aload_n C dX12_bringBack_31 0 rfl rfl ?_
      refine ct_iload_n C dX12_bringBack_32 2 rfl rfl ?_
      refine ct_iconst C dX12_bringBack_33 (3 : Int32) (by decide) ?_
      refine ct_iadd C dX12_bringBack_34 ?_
      refine ct_iload_n C dX12_bringBack_35 3 rfl rfl ?_
      refine ct_iadd C dX12_bringBack_36 ?_
      refine ct_iald C dX12_bringBack_37 kv0 h.1 ?_
      have h := h.2
      refine ct_iast C dX12_bringBack_38 kv0 h.1 ?_
      have h := h.2
      refine ct_mem (fun m4 em4 => ?_)
      have h := h m4 em4
      obtain ⟨x5, ex5⟩ : ∃ z : Int32, z = v3 + (1 : Int32) := ⟨_, rfl⟩
      have h := h x5 ex5
      refine ct_iinc (k := 3) (v := x5) C dX12_bringBack_39 [(3, .int x5), (0, .ref (o + v0)), (1, .int v1), (2, .int v2)] rfl (by rw [ex5]; rfl) (by decide) rfl ?_
      refine ct_goto C dX12_bringBack_42 15 (by decide) ?_
      refine ct_sub [1, 2, 3, 0] [(0, .ref (o + v0)), (1, .int v1), (2, .int v2), (3, .int x5)] rfl ?_
      exact ih _ _ _ _ _ kv0 h
set_option maxHeartbeats 4000000 in
set_option maxRecDepth 100000 in
theorem c_X12_bringBack (l : Launch) (D : va_G) (cy : Nat → ClassId) (o : Nat) {a0 : Nat} {p1 : Int32} {p2 : Int32} {Q : ct_M → Prop} {m : ct_M} (ka0 : ct_K 14 a0) (h : wp_X12_bringBack a0 p1 p2 Q m) : Met l yX12_bringBack (ct_ws yX12_bringBack cX12_bringBack 4 none) rm_X12_bringBack (va_Pc [.ref (o + a0), .int p1, .int p2] (ct_P D cy o ct_NN m)) (va_Qv Q (ct_P D cy o ct_NN) (fun q => o ≤ q)) 0 0 (fun q => o ≤ q) := by
  refine ct_met l D cy o ct_NN m (by decide) (Nat.le_of_ble_eq_true rfl) (fun p e s mth args below meth c C hr hlk => ?_)
  refine ct_sub [0, 1, 2] [(0, .ref (o + a0)), (1, .int p1), (2, .int p2)] rfl ?_
  unfold wp_X12_bringBack at h
  refine ct_aload_n C dX12_bringBack_0 0 rfl rfl ?_
  refine ct_iload_n C dX12_bringBack_1 1 rfl rfl ?_
  refine ct_callSi (As := [.int p1]) C (c_X12_at l D cy o  h) kv_X12_88 rfl rfl (Nat.le_of_ble_eq_true rfl) ⟨rfl, rfl, Nat.le_of_ble_eq_true rfl, Nat.le_of_ble_eq_true rfl⟩ ⟨Nat.zero_le _, Nat.zero_le _⟩ dX12_bringBack_2 (fun r2 m1 h => ?_)
  refine ct_iconst C dX12_bringBack_5 (2 : Int32) (by decide) ?_
  refine ct_iadd C dX12_bringBack_6 ?_
  refine ct_aload_n C dX12_bringBack_7 0 rfl rfl ?_
  refine ct_iload_n C dX12_bringBack_8 2 rfl rfl ?_
  refine ct_iconst C dX12_bringBack_9 (2 : Int32) (by decide) ?_
  refine ct_iadd C dX12_bringBack_10 ?_
  refine ct_iald C dX12_bringBack_11 ka0 h.1 ?_
  have h := h.2
  refine ct_iast C dX12_bringBack_12 ka0 h.1 ?_
  have h := h.2
  refine ct_mem (fun m3 em3 => ?_)
  have h := h m3 em3
  refine ct_iconst C dX12_bringBack_13 (0 : Int32) (by decide) ?_
  refine ct_istore_n C dX12_bringBack_14 [(3, .int (0 : Int32)), (0, .ref (o + a0)), (1, .int p1), (2, .int p2)] rfl (by decide) rfl ?_
  refine ct_sub [1, 2, 3, 0] [(0, .ref (o + a0)), (1, .int p1), (2, .int p2), (3, .int (0 : Int32))] rfl ?_
  obtain ⟨n4, h⟩ := h
  exact kb_X12_bringBack_15 C hr hlk  n4 _ _ _ _ _ ka0 h
abbrev rm_X12_retry : Room := { frames := 4, cells := 0, slots := 0, locals := 85 }
set_option maxHeartbeats 4000000 in
set_option maxRecDepth 100000 in
theorem kb_X12_retry_110 {p : Program} {l : Launch} {e : Env} {s : State} {mth : MethodId} {args : Array Value} {below : List Frame} {meth : Method} {c : Code} {D : va_G} {cy : Nat → ClassId} {o : Nat} {Q : Int32 → ct_M → Prop} {K12 : Nat → Nat → Int32 → Int32 → ct_M → Prop} {v0 : Nat} {v1 : Nat} {v2 : Int32} {v3 : Int32} {m : ct_M} (C : ct_Cx p s mth c cX12_retry 5 args RX12 D cy) (hr : meth.sig.returnType = (some .int)) (hlk : meth.locks = false) (hK12 : ∀ (v0 : Nat) (v1 : Nat) (v2 : Int32) (v3 : Int32) (m : ct_M), ct_K 12 v0 → ct_K 14 v1 → K12 v0 v1 v2 v3 m → ct_J p l e rm_X12_retry s mth args below meth c 5 D cy o ct_NN 0 0 (MQ below (va_Qi Q (ct_P D cy o ct_NN) (fun q => o ≤ q)) args s 0 0 (fun q => o ≤ q)) m 12 [(0, .ref (o + v0)), (1, .ref (o + v1)), (2, .int v2), (3, .int v3)] []) (kv0 : ct_K 12 v0) (kv1 : ct_K 14 v1) (h : wb_X12_retry_110 K12 Q v0 v1 v2 v3 m) : ct_J p l e rm_X12_retry s mth args below meth c 5 D cy o ct_NN 0 0 (MQ below (va_Qi Q (ct_P D cy o ct_NN) (fun q => o ≤ q)) args s 0 0 (fun q => o ≤ q)) m 110 [(0, .ref (o + v0)), (1, .ref (o + v1)), (2, .int v2), (3, .int v3)] [] := by
  unfold wb_X12_retry_110 at h
  obtain ⟨x1, ex1⟩ : ∃ z : Int32, z = v3 + (-1 : Int32) := ⟨_, rfl⟩
  have h := h x1 ex1
  refine ct_iinc (k := 3) (v := x1) C dX12_retry_110 [(3, .int x1), (0, .ref (o + v0)), (1, .ref (o + v1)), (2, .int v2)] rfl (by rw [ex1]; rfl) (by decide) rfl ?_
  refine ct_goto C dX12_retry_113 12 (by decide) ?_
  refine ct_sub [1, 2, 3, 0] [(0, .ref (o + v0)), (1, .ref (o + v1)), (2, .int v2), (3, .int x1)] rfl ?_
  exact hK12 _ _ _ _ _ kv0 kv1 h
set_option maxHeartbeats 4000000 in
set_option maxRecDepth 100000 in
theorem kb_X12_retry_12 {p : Program} {l : Launch} {e : Env} {s : State} {mth : MethodId} {args : Array Value} {below : List Frame} {meth : Method} {c : Code} {D : va_G} {cy : Nat → ClassId} {o : Nat} {Q : Int32 → ct_M → Prop} (C : ct_Cx p s mth c cX12_retry 5 args RX12 D cy) (hr : meth.sig.returnType = (some .int)) (hlk : meth.locks = false) : ∀ (n : Nat) (v0 : Nat) (v1 : Nat) (v2 : Int32) (v3 : Int32) (m : ct_M) (kv0 : ct_K 12 v0) (kv1 : ct_K 14 v1), wb_X12_retry_12 Q n v0 v1 v2 v3 m → ct_J p l e rm_X12_retry s mth args below meth c 5 D cy o ct_NN 0 0 (MQ below (va_Qi Q (ct_P D cy o ct_NN) (fun q => o ≤ q)) args s 0 0 (fun q => o ≤ q)) m 12 [(0, .ref (o + v0)), (1, .ref (o + v1)), (2, .int v2), (3, .int v3)] [] := by
  intro n
  induction n with
  | zero => intro v0 v1 v2 v3 m kv0 kv1 h; exact h.elim
  | succ n ih =>
    intro v0 v1 v2 v3 m kv0 kv1 h
    unfold wb_X12_retry_12 at h
    refine ct_iload_n C dX12_retry_12 3 rfl rfl ?_
    refine ct_if_lt C dX12_retry_13 116 (by decide) (fun hc1 => ?_) (fun hc1 => ?_)
    · have h := h.1 hc1
      refine ct_aload_n C dX12_retry_116 1 rfl rfl ?_
      refine ct_iload_n C dX12_retry_117 2 rfl rfl ?_
      refine ct_callSi (As := [.ref (o + v1), .int v2]) C (c_X12_isValid l D cy o kv1 h) kv_X12_108 rfl rfl (Nat.le_of_ble_eq_true rfl) ⟨rfl, rfl, Nat.le_of_ble_eq_true rfl, Nat.le_of_ble_eq_true rfl⟩ ⟨Nat.zero_le _, Nat.zero_le _⟩ dX12_retry_118 (fun r3 m2 h => ?_)
      refine ct_if_ne C dX12_retry_121 130 (by decide) (fun hc4 => ?_) (fun hc4 => ?_)
      · have h := h.1 hc4
        refine ct_aload_n C dX12_retry_130 1 rfl rfl ?_
        refine ct_iload_n C dX12_retry_131 2 rfl rfl ?_
        refine ct_callSi (As := [.int v2]) C (c_X12_at l D cy o  h) kv_X12_88 rfl rfl (Nat.le_of_ble_eq_true rfl) ⟨rfl, rfl, Nat.le_of_ble_eq_true rfl, Nat.le_of_ble_eq_true rfl⟩ ⟨Nat.zero_le _, Nat.zero_le _⟩ dX12_retry_132 (fun r6 m5 h => ?_)
        refine ct_iconst C dX12_retry_135 (0 : Int32) (by decide) ?_
        refine ct_iadd C dX12_retry_136 ?_
        refine ct_iconst C dX12_retry_137 (1 : Int32) (by decide) ?_
        refine ct_iast C dX12_retry_138 kv1 h.1 ?_
        have h := h.2
        refine ct_mem (fun m7 em7 => ?_)
        have h := h m7 em7
        refine ct_iconst C dX12_retry_139 (3 : Int32) (by decide) ?_
        exact ct_ireti C hr hlk dX12_retry_140 h
      · have h := h.2 hc4
        refine ct_aload_n C dX12_retry_124 1 rfl rfl ?_
        refine ct_iload_n C dX12_retry_125 2 rfl rfl ?_
        refine ct_callSi (As := [.ref (o + v1), .int v2]) C (c_X12_restart l D cy o kv1 h) kv_X12_104 rfl rfl (Nat.le_of_ble_eq_true rfl) ⟨rfl, rfl, Nat.le_of_ble_eq_true rfl, Nat.le_of_ble_eq_true rfl⟩ ⟨Nat.zero_le _, Nat.zero_le _⟩ dX12_retry_126 (fun r9 m8 h => ?_)
        exact ct_ireti C hr hlk dX12_retry_129 h
    · have h := h.2 hc1
      refine ct_iload_n C dX12_retry_16 2 rfl rfl ?_
      refine ct_callSi (As := [.int v2]) C (c_X12_at l D cy o  h) kv_X12_88 rfl rfl (Nat.le_of_ble_eq_true rfl) ⟨rfl, rfl, Nat.le_of_ble_eq_true rfl, Nat.le_of_ble_eq_true rfl⟩ ⟨Nat.zero_le _, Nat.zero_le _⟩ dX12_retry_17 (fun r11 m10 h => ?_)
      refine ct_bipush C dX12_retry_20 (17 : Int32) (by decide) ?_
      refine ct_iadd C dX12_retry_22 ?_
      refine ct_bipush C dX12_retry_23 (10 : Int32) (by decide) ?_
      refine ct_iload_n C dX12_retry_25 3 rfl rfl ?_
      refine ct_imul C dX12_retry_26 ?_
      refine ct_iadd C dX12_retry_27 ?_
      refine ct_topi (fun x12 ex12 => ?_)
      have h := h x12 ex12
      refine ct_istore C dX12_retry_28 [(4, .int x12), (0, .ref (o + v0)), (1, .ref (o + v1)), (2, .int v2), (3, .int v3)] (by decide) rfl ?_
      refine ct_aload_n C dX12_retry_30 1 rfl rfl ?_
      refine gf_X12_20 C dX12_retry_31 kv0 ?_
      have hk13 := ct_t12_6 kv0
      refine ct_bipush C dX12_retry_34 (60 : Int32) (by decide) ?_
      refine ct_iload_n C dX12_retry_36 3 rfl rfl ?_
      refine ct_imul C dX12_retry_37 ?_
      refine ct_aload_n C dX12_retry_38 2 rfl rfl ?_
      refine ct_iload C dX12_retry_39 0 rfl ?_
      refine ct_iald C dX12_retry_41 kv1 h.1 ?_
      have h := h.2
      refine ct_iadd C dX12_retry_42 ?_
      refine ct_iald C dX12_retry_43 hk13 h.1 ?_
      have h := h.2
      refine ct_bipush C dX12_retry_44 (40 : Int32) (by decide) ?_
      refine ct_icmp_ne C dX12_retry_46 110 (by decide) (fun hc14 => ?_) (fun hc14 => ?_)
      · have h := h.1 hc14
        refine ct_sub [1, 2, 3, 4] [(0, .ref (o + v0)), (1, .ref (o + v1)), (2, .int v2), (3, .int v3)] rfl ?_
        exact kb_X12_retry_110 C hr hlk ih kv0 kv1 h
      · have h := h.2 hc14
        refine ct_aload_n C dX12_retry_49 2 rfl rfl ?_
        refine ct_iload C dX12_retry_50 0 rfl ?_
        refine ct_iconst C dX12_retry_52 (1 : Int32) (by decide) ?_
        refine ct_iadd C dX12_retry_53 ?_
        refine ct_iald C dX12_retry_54 kv1 h.1 ?_
        have h := h.2
        refine ct_if_ne C dX12_retry_55 110 (by decide) (fun hc15 => ?_) (fun hc15 => ?_)
        · have h := h.1 hc15
          refine ct_sub [1, 2, 3, 4] [(0, .ref (o + v0)), (1, .ref (o + v1)), (2, .int v2), (3, .int v3)] rfl ?_
          exact kb_X12_retry_110 C hr hlk ih kv0 kv1 h
        · have h := h.2 hc15
          refine ct_aload_n C dX12_retry_58 2 rfl rfl ?_
          refine ct_iload_n C dX12_retry_59 3 rfl rfl ?_
          refine ct_iload C dX12_retry_60 0 rfl ?_
          refine ct_callSv (As := [.ref (o + v1), .int v2, .int x12]) C (c_X12_bringBack l D cy o kv1 h) kv_X12_122 rfl rfl (Nat.le_of_ble_eq_true rfl) ⟨rfl, rfl, Nat.le_of_ble_eq_true rfl, Nat.le_of_ble_eq_true rfl⟩ ⟨Nat.zero_le _, Nat.zero_le _⟩ dX12_retry_62 (fun m16 h => ?_)
          refine ct_aload_n C dX12_retry_65 2 rfl rfl ?_
          refine ct_iload C dX12_retry_66 0 rfl ?_
          refine ct_iconst C dX12_retry_68 (1 : Int32) (by decide) ?_
          refine ct_iadd C dX12_retry_69 ?_
          refine ct_iconst C dX12_retry_70 (1 : Int32) (by decide) ?_
          refine ct_iast C dX12_retry_71 kv1 h.1 ?_
          have h := h.2
          refine ct_mem (fun m17 em17 => ?_)
          have h := h m17 em17
          refine ct_aload_n C dX12_retry_72 2 rfl rfl ?_
          refine ct_iload_n C dX12_retry_73 3 rfl rfl ?_
          refine ct_callSi (As := [.int v2]) C (c_X12_at l D cy o  h) kv_X12_88 rfl rfl (Nat.le_of_ble_eq_true rfl) ⟨rfl, rfl, Nat.le_of_ble_eq_true rfl, Nat.le_of_ble_eq_true rfl⟩ ⟨Nat.zero_le _, Nat.zero_le _⟩ dX12_retry_74 (fun r19 m18 h => ?_)
          refine ct_bipush C dX12_retry_77 (16 : Int32) (by decide) ?_
          refine ct_iadd C dX12_retry_79 ?_
          refine ct_iload_n C dX12_retry_80 4 rfl rfl ?_
          refine ct_iconst C dX12_retry_81 (1 : Int32) (by decide) ?_
          refine ct_iadd C dX12_retry_82 ?_
          refine ct_iast C dX12_retry_83 kv1 h.1 ?_
          have h := h.2
          refine ct_mem (fun m20 em20 => ?_)
          have h := h m20 em20
          refine ct_aload_n C dX12_retry_84 2 rfl rfl ?_
          refine ct_iload_n C dX12_retry_85 3 rfl rfl ?_
          refine ct_callSi (As := [.int v2]) C (c_X12_at l D cy o  h) kv_X12_88 rfl rfl (Nat.le_of_ble_eq_true rfl) ⟨rfl, rfl, Nat.le_of_ble_eq_true rfl, Nat.le_of_ble_eq_true rfl⟩ ⟨Nat.zero_le _, Nat.zero_le _⟩ dX12_retry_86 (fun r22 m21 h => ?_)
          refine ct_iconst C dX12_retry_89 (1 : Int32) (by decide) ?_
          refine ct_iadd C dX12_retry_90 ?_
          refine ct_aload_n C dX12_retry_91 1 rfl rfl ?_
          refine gf_X12_26 C dX12_retry_92 kv0 ?_
          have hk23 := ct_t12_8 kv0
          refine ct_bipush C dX12_retry_95 (60 : Int32) (by decide) ?_
          refine ct_iload_n C dX12_retry_97 3 rfl rfl ?_
          refine ct_imul C dX12_retry_98 ?_
          refine ct_aload_n C dX12_retry_99 2 rfl rfl ?_
          refine ct_iload C dX12_retry_100 0 rfl ?_
          refine ct_iald C dX12_retry_102 kv1 h.1 ?_
          have h := h.2
          refine ct_iadd C dX12_retry_103 ?_
          refine ct_iald C dX12_retry_104 hk23 h.1 ?_
          have h := h.2
          refine ct_iconst C dX12_retry_105 (1 : Int32) (by decide) ?_
          refine ct_iadd C dX12_retry_106 ?_
          refine ct_iast C dX12_retry_107 kv1 h.1 ?_
          have h := h.2
          refine ct_mem (fun m24 em24 => ?_)
          have h := h m24 em24
          refine ct_iconst C dX12_retry_108 (0 : Int32) (by decide) ?_
          exact ct_ireti C hr hlk dX12_retry_109 h
set_option maxHeartbeats 4000000 in
set_option maxRecDepth 100000 in
theorem c_X12_retry (l : Launch) (D : va_G) (cy : Nat → ClassId) (o : Nat) {a0 : Nat} {a1 : Nat} {p2 : Int32} {Q : Int32 → ct_M → Prop} {m : ct_M} (ka0 : ct_K 12 a0) (ka1 : ct_K 14 a1) (h : wp_X12_retry a0 a1 p2 Q m) : Met l yX12_retry (ct_ws yX12_retry cX12_retry 5 (some .int)) rm_X12_retry (va_Pc [.ref (o + a0), .ref (o + a1), .int p2] (ct_P D cy o ct_NN m)) (va_Qi Q (ct_P D cy o ct_NN) (fun q => o ≤ q)) 0 0 (fun q => o ≤ q) := by
  refine ct_met l D cy o ct_NN m (by decide) (Nat.le_of_ble_eq_true rfl) (fun p e s mth args below meth c C hr hlk => ?_)
  refine ct_sub [0, 1, 2] [(0, .ref (o + a0)), (1, .ref (o + a1)), (2, .int p2)] rfl ?_
  unfold wp_X12_retry at h
  refine ct_aload_n C dX12_retry_0 1 rfl rfl ?_
  refine ct_iload_n C dX12_retry_1 2 rfl rfl ?_
  refine ct_callSi (As := [.int p2]) C (c_X12_at l D cy o  h) kv_X12_88 rfl rfl (Nat.le_of_ble_eq_true rfl) ⟨rfl, rfl, Nat.le_of_ble_eq_true rfl, Nat.le_of_ble_eq_true rfl⟩ ⟨Nat.zero_le _, Nat.zero_le _⟩ dX12_retry_2 (fun r2 m1 h => ?_)
  refine ct_bipush C dX12_retry_5 (16 : Int32) (by decide) ?_
  refine ct_iadd C dX12_retry_7 ?_
  refine ct_iald C dX12_retry_8 ka1 h.1 ?_
  have h := h.2
  refine ct_iconst C dX12_retry_9 (1 : Int32) (by decide) ?_
  refine ct_isub C dX12_retry_10 ?_
  refine ct_topi (fun x3 ex3 => ?_)
  have h := h x3 ex3
  refine ct_istore_n C dX12_retry_11 [(3, .int x3), (0, .ref (o + a0)), (1, .ref (o + a1)), (2, .int p2)] rfl (by decide) rfl ?_
  refine ct_sub [1, 2, 3, 0] [(0, .ref (o + a0)), (1, .ref (o + a1)), (2, .int p2), (3, .int x3)] rfl ?_
  obtain ⟨n4, h⟩ := h
  exact kb_X12_retry_12 C hr hlk  n4 _ _ _ _ _ ka0 ka1 h
