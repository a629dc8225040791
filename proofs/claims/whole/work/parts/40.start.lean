theorem mz_0 : Cond.instantiable RX0 2 ∈ ct_UW := ct_w1 130 (by decide +kernel) rfl
theorem mz_1 : Cond.instantiable RX1 3 ∈ ct_UW := ct_w2 23 (by decide +kernel) rfl
theorem mz_2 : Cond.instantiable RX2 3 ∈ ct_UW := ct_w2 48 (by decide +kernel) rfl
theorem mz_3 : Cond.instantiable RX3 4 ∈ ct_UW := ct_w1 70 (by decide +kernel) rfl
theorem mz_4 : Cond.instantiable RX4 5 ∈ ct_UW := ct_w1 147 (by decide +kernel) rfl
theorem mz_5 : Cond.instantiable RX5 6 ∈ ct_UW := ct_w1 91 (by decide +kernel) rfl
theorem mz_6 : Cond.instantiable RX6 3 ∈ ct_UW := ct_w2 42 (by decide +kernel) rfl
theorem mz_7 : Cond.instantiable RX7 5 ∈ ct_UW := ct_w1 32 (by decide +kernel) rfl
theorem mz_8 : Cond.instantiable RX8 3 ∈ ct_UW := ct_w1 26 (by decide +kernel) rfl
theorem mz_9 : Cond.instantiable RX9 10 ∈ ct_UW := ct_w1 124 (by decide +kernel) rfl
theorem mz_10 : Cond.instantiable RX10 8 ∈ ct_UW := ct_w1 117 (by decide +kernel) rfl
theorem mz_11 : Cond.instantiable RX11 9 ∈ ct_UW := ct_w1 18 (by decide +kernel) rfl
theorem mz_12 : Cond.instantiable RX12 34 ∈ ct_UW := ct_w4 57 (by decide +kernel) rfl
theorem mz_13 : Cond.arrayClass .char ∈ ct_UW := ct_w1 53 (by decide +kernel) rfl
theorem mz_14 : Cond.arrayClass .int ∈ ct_UW := ct_w1 90 (by decide +kernel) rfl
theorem mz_15 : Cond.arrayClass .long ∈ ct_UW := ct_w2 67 (by decide +kernel) rfl
theorem mz_16 : Cond.arrayClass .boolean ∈ ct_UW := ct_w1 89 (by decide +kernel) rfl
theorem mz_17 : Cond.methodLink RL 9 yX11_init ∈ ct_UW := ct_w1 19 (by decide +kernel) rfl
theorem mz_18 : Cond.instanceMethod yX11_init ∈ ct_UW := ct_w1 20 (by decide +kernel) rfl
theorem mz_19 : Cond.initialized RX11 ∈ ct_UW := ct_w1 1 (by decide +kernel) rfl
theorem mz_20 : Cond.code yX11_init cX11_init 2 none ∈ ct_UW := ct_w1 21 (by decide +kernel) rfl
theorem mz_21 : Cond.methodLink RL 12 yX12_init ∈ ct_UW := ct_w4 58 (by decide +kernel) rfl
theorem mz_22 : Cond.instanceMethod yX12_init ∈ ct_UW := ct_w4 59 (by decide +kernel) rfl
theorem mz_23 : Cond.initialized RX12 ∈ ct_UW := ct_w1 13 (by decide +kernel) rfl
theorem mz_24 : Cond.code yX12_init cX12_init 1 none ∈ ct_UW := ct_w4 60 (by decide +kernel) rfl
theorem mz_25 : Cond.classLink RL 7 RX11 ∈ ct_UW := ct_w1 17 (by decide +kernel) rfl
theorem mz_26 : Cond.classLink RL 10 RX12 ∈ ct_UW := ct_w4 56 (by decide +kernel) rfl
theorem kz_L_9 : ct_kI RL 9 yX11_init cX11_init 2 0 := ⟨Or.inr mz_17, mz_18, mz_19, mz_20, rfl, ⟨by decide +kernel, by decide +kernel, by decide +kernel⟩⟩
theorem kz_L_12 : ct_kI RL 12 yX12_init cX12_init 1 0 := ⟨Or.inr mz_21, mz_22, mz_23, mz_24, rfl, ⟨by decide +kernel, by decide +kernel, by decide +kernel⟩⟩
/-- the memory at the law's loop -/
def ct_m0 : ct_M := ct_st (ct_st (ct_st (ct_st ct_mz 33 2 1) 26 3 1) 1023 4 1) 1030 72 1
theorem ct_m0_row {k : Nat} (h1 : k ≠ 33) (h2 : k ≠ 26) (h3 : k ≠ 1023) (h4 : k ≠ 1030) : ct_m0.1 k = ct_mz.1 k := by
  unfold ct_m0
  rw [ct_st_ne h4, ct_st_ne h3, ct_st_ne h2, ct_st_ne h1]
set_option maxHeartbeats 4000000 in
set_option maxRecDepth 100000 in
theorem ct_m0_pool (cy : Nat → ClassId) (o : Nat) (x : va_E) (k : Nat) (hk : k < 1047) : cq_f3 cy o (va_up (cq_f2 o (ct_E cy o ct_mz)) 1023 x) k = ct_E cy o ct_m0 k := by
  unfold cq_f3 cq_f2
  by_cases h1 : k = 1030
  · subst h1
    rw [va_up_self, ct_E14 (⟨by decide, by decide⟩ : ct_K 14 1030)]
    congr 3
  · rw [va_up_ne _ _ h1]
    by_cases h2 : k = 1023
    · subst h2
      rw [va_up_self, ct_E12 (⟨by decide, by decide⟩ : ct_K 12 1023)]
      simp [ct_m0, ct_st, va_up, upd, ct_mz]
    · rw [va_up_ne _ _ h2]
      unfold cq_fin
      by_cases h3 : k < 1023
      · rw [if_pos h3, va_up_ne _ _ h2]
        by_cases h4 : k = 26
        · subst h4
          rw [va_up_self, ct_E10 (⟨by decide, by decide⟩ : ct_K 10 26)]
          simp [ct_m0, ct_st, va_up, upd, ct_mz]
        · rw [va_up_ne _ _ h4]
          by_cases h5 : k = 33
          · subst h5
            rw [va_up_self, ct_E9 (⟨by decide, by decide⟩ : ct_K 9 33)]
            simp [ct_m0, ct_st, va_up, upd, ct_mz, ct_pg, ct_pick, ct_wg]
          · rw [va_up_ne _ _ h5]
            exact (ct_E_congr (ct_m0_row h5 h4 h2 h1) rfl).symm
      · rw [if_neg h3]
        exact (ct_E_congr (ct_m0_row (by omega) (by omega) h2 h1) rfl).symm
section CQ3
variable {p : Program} {l : Launch} {e : Env} {R : Room} {s : State} {mth : MethodId} {args : Array Value} {below : List Frame} {meth : Method} {c : Code} {cc : ByteArray} {nL : Nat} {own : String} {D : va_G} {cy : Nat → ClassId} {o a0 N kc ks : Nat} {f : Nat → va_E} {QQ : State → Prop} {pc : Nat} {lv : List (Nat × Value)} {st : List Value}
theorem cq_callG (C : ct_Cx p s mth c cc nL args own D cy) {y : MethodName} {bytes : ByteArray} {maxL index n b M mc ms : Nat} {rmg : Room} {As stk : List Value} {g : Nat → va_E} (hM : Met l y (ct_ws y bytes maxL none) rmg (va_Pc (.ref (o + b) :: As) (cq_P D cy o N f)) (va_Qv (fun _ : Unit => True) (fun _ t => cq_P D cy o M g t) (fun q => o + b ≤ q)) mc ms (fun q => o + b ≤ q)) (d : decode cc pc = .ok (.invokespecial index, 3)) (hk : ct_kI own index y bytes maxL n) (hab : a0 ≤ b) (hst : stk = As.reverse ++ .ref (o + b) :: st) (hn : As.length = n) (hcat : (st.map fun v => v.category).sum ≤ 8) (hroom : rmg.cells = mc ∧ rmg.slots = ms ∧ rmg.frames + 1 ≤ R.frames ∧ 8 + (maxL + 11) + rmg.locals ≤ R.locals) (hcs : kc + mc ≤ R.cells ∧ ks + ms ≤ R.slots) (kk : cq_J p l e R s mth args below meth c nL D o a0 M g (kc + mc) (ks + ms) QQ (pc + 3) lv st) : cq_J p l e R s mth args below meth c nL D o a0 N f kc ks QQ pc lv stk := by
  intro H locs ls hz hP hS hl
  obtain ⟨hlink, hinst, hini, hcode, hyn, hd⟩ := hk
  have hrun : va_Run p l e R s mth args below meth c H locs kc ks mc ms (F0 mth pc ls stk) st (va_Qv (fun _ : Unit => True) (fun _ t => cq_P D cy o M g t) (fun q => o + b ≤ q) (Value.ref (o + b) :: As).toArray) (fun q => o + b ≤ q) := by
    rcases hlink with hlink | hlink
    · exact va_runIN (As := As) (rest := st) ⟨C.1, C.2.1, C.2.2.1, C.2.2.2.1, C.2.2.2.2.1⟩ hM ⟨va_cnB n C.2.2.2.2.1 (ct_GI (ct_wsin hcode)) rfl hroom.1 hroom.2.1 (C.2.2.2.2.2.2.1 _ hlink) (C.2.2.2.2.1 _ hini) hd hroom.2.2, hyn, C.2.2.2.2.1 _ hinst⟩ ⟨cq_blind _ D cy o _ f, cq_pre hz hP C.2.2.2.2.2.1 C.2.2.2.2.2.2⟩ rfl hn hl.1 hst (lv_room hcat) d hcs
    · exact va_runI (As := As) (rest := st) ⟨C.1, C.2.1, C.2.2.1, C.2.2.2.1, C.2.2.2.2.1⟩ hM (cwI n C.2.2.2.2.1 (ct_GI (ct_wsin hcode)) rfl hroom.1 hroom.2.1 (C.2.2.2.2.1 _ hini) (C.2.2.2.2.1 _ hlink) (C.2.2.2.2.1 _ hinst) hyn hd hroom.2.2) ⟨cq_blind _ D cy o _ f, cq_pre hz hP C.2.2.2.2.2.1 C.2.2.2.2.2.2⟩ rfl hn hl.1 hst (lv_room hcat) d hcs
  refine va_callv hrun hS (fun q _ h => by show o + a0 ≤ q; have h : o + b ≤ q := h; omega) (fun q h => by show o + a0 ≤ q; have h : o + b ≤ q := h; omega) (fun u t H1 locs1 ht hvm hw hB hz1 hk1 hS1 => ?_)
  obtain ⟨z1, P1, -, -⟩ := hB
  rw [ht] at z1 P1
  exact kk H1 locs1 ls z1 P1 hS1 hl
theorem cq_toJ {m : ct_M} (hf : ∀ k, k < N → f k = ct_E cy o m k) (kk : ct_J p l e R s mth args below meth c nL D cy o N kc ks QQ m pc lv st) : cq_J p l e R s mth args below meth c nL D o 0 N f kc ks QQ pc lv st := fun H locs ls hz hP hS hl => kk H locs ls (by rw [cq_pw_ct, ← cq_congr hf]; exact hP) hS hl
end CQ3
theorem ct_arrK {s : State} {args : Array Value} {ty : FieldType} (hp : ∀ C : String, ty ≠ .object C) (h : (Cond.arrayClass ty).before args s = true) : ∃ cA : ClassId, ArrOfT s cA ty ∧ va_RA s cA ty := by
  obtain ⟨cA, kA, comp, h1, h2, h3⟩ := Cond.arrayClass_spec h
  refine ⟨cA, fun n z => ⟨fun k h => (by cases h), kA, h2, comp, h3⟩, ?_⟩
  cases ty with
  | object C => exact absurd rfl (hp C)
  | _ => exact h1
theorem ct_arrO {s : State} {C : String} (h : va_AO C s) : ∃ cA : ClassId, ArrOfT s cA (.object C) ∧ va_RA s cA (.object C) := by
  obtain ⟨comp, c, k, h1, h2, h3, h4, h5⟩ := Cond.arrayOver_spec h
  exact ⟨c, fun n z => ⟨fun q h => (by cases h), k, h3, comp, h4⟩, k, comp, h3, h4, h1, h5⟩
theorem ct_start_NK {s : State} {args : Array Value} (hts : ∀ w ∈ lw_tbl, w.before args s = true) : ct_NK s := by
  have hm : ∀ (i : Nat) (w : Cond), tables_1[i]? = some w → w.before args s = true := fun i w h => hts w (List.mem_append_right _ (List.mem_of_getElem? h))
  refine ⟨fun w hw => ?_, va_AO.of (hm 146 _ (by decide +kernel)), va_AO.of (hm 66 _ (by decide +kernel)), va_AO.of (hm 123 _ (by decide +kernel)), va_AO.of (hm 68 _ (by decide +kernel))⟩
  simp only [ct_nest, List.mem_cons, List.not_mem_nil, or_false] at hw
  rcases hw with rfl | rfl | rfl | rfl | rfl | rfl | rfl | rfl | rfl | rfl | rfl
  · exact va_Nw.of rfl (hm 27 _ (by decide +kernel))
  · exact va_Nw.of rfl (hm 33 _ (by decide +kernel))
  · exact va_Nw.of rfl (hm 71 _ (by decide +kernel))
  · exact va_Nw.of rfl (hm 92 _ (by decide +kernel))
  · exact va_Nw.of rfl (hm 131 _ (by decide +kernel))
  · exact va_Nw.of rfl (hm 148 _ (by decide +kernel))
  · exact va_Nw.of rfl (hm 153 _ (by decide +kernel))
  · exact va_Nw.of rfl (hm 289 _ (by decide +kernel))
  · exact va_Nw.of rfl (hm 492 _ (by decide +kernel))
  · exact va_Nw.of rfl (hm 569 _ (by decide +kernel))
  · exact va_Nw.of rfl (hm 570 _ (by decide +kernel))
theorem ct_start_K {s : State} {args : Array Value} (hts : ∀ w ∈ lw_tbl, w.before args s = true) : ∃ (D : va_G) (cy : Nat → ClassId), va_K D vwCl (ct_tys cy) s := by
  have hu : ∀ w ∈ ct_UW, w.before args s = true := fun w h => hts w (List.mem_filter.mp h).1
  have hN := ct_start_NK hts
  obtain ⟨c0, i0, k0⟩ := u_known (n := 2) hu ct_inX0 (hu _ mz_0)
  obtain ⟨c1, i1, k1⟩ := u_known (n := 3) hu ct_inX1 (hu _ mz_1)
  obtain ⟨c2, i2, k2⟩ := u_known (n := 3) hu ct_inX2 (hu _ mz_2)
  obtain ⟨c3, i3, k3⟩ := u_known (n := 4) hu ct_inX3 (hu _ mz_3)
  obtain ⟨c4, i4, k4⟩ := u_known (n := 5) hu ct_inX4 (hu _ mz_4)
  obtain ⟨c5, i5, k5⟩ := u_known (n := 6) hu ct_inX5 (hu _ mz_5)
  obtain ⟨c6, i6, k6⟩ := u_known (n := 3) hu ct_inX6 (hu _ mz_6)
  obtain ⟨c7, i7, k7⟩ := u_known (n := 5) hu ct_inX7 (hu _ mz_7)
  obtain ⟨c8, i8, k8⟩ := u_known (n := 3) hu ct_inX8 (hu _ mz_8)
  obtain ⟨c9, i9, k9⟩ := u_known (n := 10) hu ct_inX9 (hu _ mz_9)
  obtain ⟨c10, i10, k10⟩ := u_known (n := 8) hu ct_inX10 (hu _ mz_10)
  obtain ⟨c11, i11, k11⟩ := u_known (n := 9) hu ct_inX11 (hu _ mz_11)
  obtain ⟨c12, i12, k12⟩ := u_known (n := 34) hu ct_inX12 (hu _ mz_12)
  obtain ⟨y13, a13⟩ := ct_arrK (ty := .char) (fun C h => by cases h) (hu _ mz_13)
  obtain ⟨y14, a14⟩ := ct_arrK (ty := .int) (fun C h => by cases h) (hu _ mz_14)
  obtain ⟨y15, a15⟩ := ct_arrK (ty := .long) (fun C h => by cases h) (hu _ mz_15)
  obtain ⟨y16, a16⟩ := ct_arrK (ty := .boolean) (fun C h => by cases h) (hu _ mz_16)
  obtain ⟨y17, a17⟩ := ct_arrO hN.2.1
  obtain ⟨y18, a18⟩ := ct_arrO hN.2.2.1
  obtain ⟨y19, a19⟩ := ct_arrO hN.2.2.2.1
  obtain ⟨y20, a20⟩ := ct_arrO hN.2.2.2.2
  refine ⟨(fun k => [c0, c1, c2, c3, c4, c5, c6, c7, c8, c9, c10, c11, c12].getD k c0, fun k => [i0, i1, i2, i3, i4, i5, i6, i7, i8, i9, i10, i11, i12].getD k i0), fun k => [y13, y14, y15, y16, y17, y18, y19, y20].getD (k - 13) y13, ⟨fun k q hq => ?_, fun k q hq => ?_⟩⟩
  · match k, hq with
    | 0, hq => cases hq; exact k0
    | 1, hq => cases hq; exact k1
    | 2, hq => cases hq; exact k2
    | 3, hq => cases hq; exact k3
    | 4, hq => cases hq; exact k4
    | 5, hq => cases hq; exact k5
    | 6, hq => cases hq; exact k6
    | 7, hq => cases hq; exact k7
    | 8, hq => cases hq; exact k8
    | 9, hq => cases hq; exact k9
    | 10, hq => cases hq; exact k10
    | 11, hq => cases hq; exact k11
    | 12, hq => cases hq; exact k12
    | k + 13, hq => simp [vwCl] at hq
  · match k, hq with
    | 0, hq => cases hq; exact a13
    | 1, hq => cases hq; exact a14
    | 2, hq => cases hq; exact a15
    | 3, hq => cases hq; exact a16
    | 4, hq => cases hq; exact a17
    | 5, hq => cases hq; exact a18
    | 6, hq => cases hq; exact a19
    | 7, hq => cases hq; exact a20
    | k + 8, hq => simp [ct_tys] at hq
set_option maxHeartbeats 8000000 in
set_option maxRecDepth 100000 in
theorem law_start {p : Program} {l : Launch} {e : Env} {s : State} {mth : MethodId} {below : List Frame} {meth : Method} {c : Code} {D : va_G} {cy : Nat → ClassId} {o b L : Nat} {xs : Nat → Int32} (C : ct_Cx p s mth c cL_law 4 #[Value.ref b] RL D cy) (hr : meth.sig.returnType = ret) (hlk : meth.locks = false) (hX : va_X b L xs s s.heap) (hbl : b < s.heap.size) (hso : o = s.heap.size) (h : ∃ n, wb_L_law_18 xs L n 0 1023 (0 : Int32) ct_m0) : cq_J p l e room_1 s mth #[Value.ref b] below meth c 4 D o 0 0 (fun _ => .inr (0, [])) 0 0 (lw_Z below #[Value.ref b] s) 0 [(0, .ref b)] [] := by
  have hlo : o + 0 ≤ s.heap.size := by omega
  refine cq_new (ci := 11) C dL_law_0 [.null, .null, .null, .null, .null, .null, .null, .null, .null] tyX11 tyX11_ok ct_inX11 mz_25 mz_11 mz_19 rfl (by decide +kernel) hlo (Nat.le_of_ble_eq_true rfl) (Nat.le_of_ble_eq_true rfl) ?_
  refine cq_w (fun H locs ls hl hh => lv_dup C.1 C.2.1 dL_law_3 rfl hh) ?_
  refine cq_num (N' := 0 + 1) (kc' := 1) (ks' := 9) rfl rfl rfl ?_
  refine cq_callG (b := 0) (M := 1023) (mc := 1022) (ms := 12038) (As := []) (rmg := rq_X11_init) C (c_X11_init l D cy o _ (va_up_self _ _ _)) dL_law_4 kz_L_9 (by decide) rfl rfl (Nat.le_of_ble_eq_true rfl) ⟨rfl, rfl, Nat.le_of_ble_eq_true rfl, Nat.le_of_ble_eq_true rfl⟩ ⟨Nat.le_of_ble_eq_true rfl, Nat.le_of_ble_eq_true rfl⟩ ?_
  refine cq_store (lv' := [(1, .ref (o + 0)), (0, .ref b)]) (fun H locs ls hl hh => lv_astore_n C.1 C.2.1 dL_law_7 rfl hl (by decide) rfl hh) ?_
  refine cq_new (ci := 12) C dL_law_8 [.int 0, .null, .int 0, .int 0, .int 0, .null, .null, .null, .null, .null, .null, .null, .null, .int 0, .null, .null, .int 0, .null, .null, .int 0, .null, .null, .null, .null, .null, .null, .null, .null, .int 0, .int 0, .null, .int 0, .null, .int 0] tyX12 tyX12_ok ct_inX12 mz_26 mz_12 mz_23 rfl (by decide +kernel) hlo (Nat.le_of_ble_eq_true rfl) (Nat.le_of_ble_eq_true rfl) ?_
  refine cq_w (fun H locs ls hl hh => lv_dup C.1 C.2.1 dL_law_11 rfl hh) ?_
  refine cq_num (N' := 1023 + 1) (kc' := 1024) (ks' := 12081) rfl rfl rfl ?_
  refine cq_callG (b := 1023) (M := 1047) (mc := 23) (ms := 12816) (As := []) (rmg := rq_X12_init) C (c_X12_init l D cy o _ (va_up_self _ _ _)) dL_law_12 kz_L_12 (by decide) rfl rfl (Nat.le_of_ble_eq_true rfl) ⟨rfl, rfl, Nat.le_of_ble_eq_true rfl, Nat.le_of_ble_eq_true rfl⟩ ⟨Nat.le_of_ble_eq_true rfl, Nat.le_of_ble_eq_true rfl⟩ ?_
  refine cq_store (lv' := [(2, .ref (o + 1023)), (1, .ref (o + 0)), (0, .ref b)]) (fun H locs ls hl hh => lv_astore_n C.1 C.2.1 dL_law_15 rfl hl (by decide) rfl hh) ?_
  refine cq_w (fun H locs ls hl hh => lv_iconst (v := (0 : Int32)) C.1 C.2.1 dL_law_16 (by decide) hh) ?_
  refine cq_store (lv' := [(3, .int (0 : Int32)), (2, .ref (o + 1023)), (1, .ref (o + 0)), (0, .ref b)]) (fun H locs ls hl hh => lv_istore_n C.1 C.2.1 dL_law_17 rfl hl (by decide) rfl hh) ?_
  refine cq_num (N' := ct_NN) (kc' := 1047) (ks' := 24897) rfl rfl rfl ?_
  refine cq_toJ (m := ct_m0) (fun k hk => ct_m0_pool cy o _ k hk) ?_
  obtain ⟨n, h⟩ := h
  refine ct_sub [3, 2, 1, 0] [(0, .ref b), (1, .ref (o + 0)), (2, .ref (o + 1023)), (3, .int (0 : Int32))] rfl ?_
  exact kb_L_law_18 C hr hlk hX hbl hso n 0 1023 (0 : Int32) ct_m0 ⟨by decide, by decide⟩ ⟨by decide, by decide⟩ h
set_option maxHeartbeats 4000000 in
theorem law_whole {p : Program} {e : Env} {s : State} {m : MethodId} {below : List Frame} {meth : Method} {c : Code} (l : Launch) {b L : Nat} {xs : Nat → Int32} (C0 : lw_At p s m meth c b L xs) (h : ∃ n, wb_L_law_18 xs L n 0 1023 (0 : Int32) ct_m0) : W p l e room_1 s m #[Value.ref b] below meth c s.heap [] 0 0 (lw_Z below #[Value.ref b] s) (entryFrame m ([Value.ref b] : List Value).toArray 4) := by
  obtain ⟨hx, hb, hr, hml, hown, hts, hX, hbl, hlocks, hgv⟩ := C0
  obtain ⟨D, cy, hK⟩ := ct_start_K hts
  have hN := ct_start_NK hts
  have C : ct_Cx p s m c cL_law 4 #[Value.ref b] RL D cy := ⟨hx, hb, hml, hown, fun w h => hts w (List.mem_filter.mp h).1, hK, hN⟩
  rw [lg_entry_eq]
  refine law_start C hr hlocks hX hbl rfl h s.heap [] _ rfl (fun k q hq => by simp [cq_pw] at hq) va_S.rf (lv_entry [.ref b] (Nat.le_of_ble_eq_true rfl))
