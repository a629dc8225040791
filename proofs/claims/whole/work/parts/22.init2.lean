theorem mv_78 : Cond.fieldLink RX9 32 "CellTransactions$Worker" "condition" "I" ∈ ct_UW := ct_w1 178 (by decide +kernel) rfl
theorem mv_79 : Cond.fieldLink RX9 36 "CellTransactions$Worker" "sum" "I" ∈ ct_UW := ct_w1 189 (by decide +kernel) rfl
theorem mv_80 : Cond.fieldLink RX9 39 "CellTransactions$Worker" "next" "I" ∈ ct_UW := ct_w1 192 (by decide +kernel) rfl
theorem mv_81 : Cond.fieldLink RX9 42 "CellTransactions$CellLog" "cells" "I" ∈ ct_UW := ct_w1 136 (by decide +kernel) rfl
theorem mv_82 : Cond.fieldLink RX9 45 "CellTransactions$Worker" "openCount" "I" ∈ ct_UW := ct_w1 203 (by decide +kernel) rfl
theorem mv_83 : Cond.fieldLink RX10 42 "CellTransactions$World" "threads" "I" ∈ ct_UW := ct_w1 237 (by decide +kernel) rfl
theorem mv_84 : Cond.fieldLink RX10 49 "CellTransactions$Worker" "runs" "I" ∈ ct_UW := ct_w1 182 (by decide +kernel) rfl
theorem mv_85 : Cond.fieldLink RX10 52 "CellTransactions$Worker" "timesRestarted" "I" ∈ ct_UW := ct_w1 187 (by decide +kernel) rfl
theorem mv_86 : Cond.methodLink RX10 55 yX9_become ∈ ct_UW := ct_w2 85 (by decide +kernel) rfl
theorem mv_87 : Cond.instanceMethod yX9_become ∈ ct_UW := ct_w2 86 (by decide +kernel) rfl
theorem mv_88 : Cond.selects RX9 yX9_become yX9_become ∈ ct_UW := ct_w2 87 (by decide +kernel) rfl
theorem mv_89 : Cond.code yX9_become cX9_become 2 none ∈ ct_UW := ct_w2 88 (by decide +kernel) rfl
theorem mv_90 : Cond.methodLink RX11 1 objectInit ∈ ct_UW := ct_w1 22 (by decide +kernel) rfl
theorem mv_91 : Cond.classLink RX11 7 RX8 ∈ ct_UW := ct_w1 25 (by decide +kernel) rfl
theorem mv_92 : Cond.instantiable RX8 3 ∈ ct_UW := ct_w1 26 (by decide +kernel) rfl
theorem mv_93 : Cond.initialized RX8 ∈ ct_UW := ct_w1 2 (by decide +kernel) rfl
theorem mv_94 : Cond.instanceMethod yX8_init ∈ ct_UW := ct_w1 28 (by decide +kernel) rfl
theorem mv_95 : Cond.code yX8_init cX8_init 1 none ∈ ct_UW := ct_w1 29 (by decide +kernel) rfl
theorem mv_96 : Cond.fieldLink RX11 10 "CellTransactions" "text" "LCellTransactions$SetupText;" ∈ ct_UW := ct_w2 89 (by decide +kernel) rfl
theorem mv_97 : Cond.classLink RX11 16 RX5 ∈ ct_UW := ct_w1 65 (by decide +kernel) rfl
theorem mv_98 : Cond.fieldLink RX11 18 "CellTransactions" "programs" "[LCellTransactions$Program;" ∈ ct_UW := ct_w2 90 (by decide +kernel) rfl
theorem mv_99 : Cond.classLink RX11 22 RX10 ∈ ct_UW := ct_w1 67 (by decide +kernel) rfl
theorem mv_100 : Cond.fieldLink RX11 24 "CellTransactions" "saved" "[LCellTransactions$World;" ∈ ct_UW := ct_w2 93 (by decide +kernel) rfl
theorem mv_101 : Cond.arrayClass .boolean ∈ ct_UW := ct_w1 89 (by decide +kernel) rfl
theorem mv_102 : Cond.fieldLink RX11 28 "CellTransactions" "slotFilled" "[Z" ∈ ct_UW := ct_w2 94 (by decide +kernel) rfl
theorem mv_103 : Cond.classLink RX11 32 RX3 ∈ ct_UW := ct_w1 69 (by decide +kernel) rfl
theorem mv_104 : Cond.instantiable RX3 4 ∈ ct_UW := ct_w1 70 (by decide +kernel) rfl
theorem mv_105 : Cond.initialized RX3 ∈ ct_UW := ct_w1 4 (by decide +kernel) rfl
theorem mv_106 : Cond.instanceMethod yX3_init ∈ ct_UW := ct_w1 72 (by decide +kernel) rfl
theorem mv_107 : Cond.code yX3_init cX3_init 1 none ∈ ct_UW := ct_w1 73 (by decide +kernel) rfl
theorem mv_108 : Cond.fieldLink RX11 35 "CellTransactions" "observations" "LCellTransactions$Observations;" ∈ ct_UW := ct_w2 96 (by decide +kernel) rfl
theorem mv_109 : Cond.instantiable RX5 6 ∈ ct_UW := ct_w1 91 (by decide +kernel) rfl
theorem mv_110 : Cond.initialized RX5 ∈ ct_UW := ct_w1 5 (by decide +kernel) rfl
theorem mv_111 : Cond.instanceMethod yX5_init ∈ ct_UW := ct_w1 93 (by decide +kernel) rfl
theorem mv_112 : Cond.code yX5_init cX5_init 1 none ∈ ct_UW := ct_w1 94 (by decide +kernel) rfl
theorem mv_113 : Cond.methodLink RX11 40 yX10_init ∈ ct_UW := ct_w1 118 (by decide +kernel) rfl
theorem mv_114 : Cond.fieldLink RX11 43 "CellTransactions" "present" "LCellTransactions$World;" ∈ ct_UW := ct_w2 91 (by decide +kernel) rfl
theorem mv_115 : Cond.classLink RX11 47 RX1 ∈ ct_UW := ct_w2 22 (by decide +kernel) rfl
theorem mv_116 : Cond.instantiable RX1 3 ∈ ct_UW := ct_w2 23 (by decide +kernel) rfl
theorem mv_117 : Cond.initialized RX1 ∈ ct_UW := ct_w1 10 (by decide +kernel) rfl
theorem mv_118 : Cond.methodLink RX11 49 yX1_init ∈ ct_UW := ct_w2 24 (by decide +kernel) rfl
theorem mv_119 : Cond.instanceMethod yX1_init ∈ ct_UW := ct_w2 25 (by decide +kernel) rfl
theorem mv_120 : Cond.code yX1_init cX1_init 3 none ∈ ct_UW := ct_w2 26 (by decide +kernel) rfl
theorem mv_121 : Cond.fieldLink RX11 50 "CellTransactions" "history" "LCellTransactions$History;" ∈ ct_UW := ct_w2 92 (by decide +kernel) rfl
theorem mv_122 : Cond.fieldLink RX11 54 "CellTransactions" "scriptWorld" "LCellTransactions$World;" ∈ ct_UW := ct_w2 95 (by decide +kernel) rfl
theorem mv_123 : Cond.classLink RX11 57 RX6 ∈ ct_UW := ct_w2 41 (by decide +kernel) rfl
theorem mv_124 : Cond.instantiable RX6 3 ∈ ct_UW := ct_w2 42 (by decide +kernel) rfl
theorem mv_125 : Cond.initialized RX6 ∈ ct_UW := ct_w1 11 (by decide +kernel) rfl
theorem mv_126 : Cond.methodLink RX11 59 yX6_init ∈ ct_UW := ct_w2 43 (by decide +kernel) rfl
theorem mv_127 : Cond.instanceMethod yX6_init ∈ ct_UW := ct_w2 44 (by decide +kernel) rfl
theorem mv_128 : Cond.code yX6_init cX6_init 2 none ∈ ct_UW := ct_w2 45 (by decide +kernel) rfl
theorem mv_129 : Cond.fieldLink RX11 60 "CellTransactions" "schedules" "LCellTransactions$Schedules;" ∈ ct_UW := ct_w2 97 (by decide +kernel) rfl
theorem mv_130 : Cond.methodLink RX11 64 yX10_addThread ∈ ct_UW := ct_w2 81 (by decide +kernel) rfl
theorem mv_131 : Cond.instanceMethod yX10_addThread ∈ ct_UW := ct_w2 82 (by decide +kernel) rfl
theorem mv_132 : Cond.selects RX10 yX10_addThread yX10_addThread ∈ ct_UW := ct_w2 83 (by decide +kernel) rfl
theorem mv_133 : Cond.code yX10_addThread cX10_addThread 3 none ∈ ct_UW := ct_w2 84 (by decide +kernel) rfl
theorem mv_134 : Cond.methodLink RX12 1 objectInit ∈ ct_UW := ct_w4 61 (by decide +kernel) rfl
theorem mv_135 : Cond.fieldLink RX12 7 "CellTransactionsModel" "text" "[I" ∈ ct_UW := ct_w4 63 (by decide +kernel) rfl
theorem mv_136 : Cond.fieldLink RX12 13 "CellTransactionsModel" "threads" "I" ∈ ct_UW := ct_w4 66 (by decide +kernel) rfl
theorem mv_137 : Cond.fieldLink RX12 17 "CellTransactionsModel" "tokens" "[I" ∈ ct_UW := ct_w4 67 (by decide +kernel) rfl
theorem mv_138 : Cond.fieldLink RX12 20 "CellTransactionsModel" "letter" "[I" ∈ ct_UW := ct_w4 68 (by decide +kernel) rfl
theorem mv_139 : Cond.fieldLink RX12 23 "CellTransactionsModel" "digit" "[I" ∈ ct_UW := ct_w4 69 (by decide +kernel) rfl
theorem mv_140 : Cond.fieldLink RX12 26 "CellTransactionsModel" "bar" "[I" ∈ ct_UW := ct_w4 70 (by decide +kernel) rfl
theorem mv_141 : Cond.fieldLink RX12 29 "CellTransactionsModel" "close" "[I" ∈ ct_UW := ct_w4 71 (by decide +kernel) rfl
theorem mv_142 : Cond.fieldLink RX12 32 "CellTransactionsModel" "state" "[I" ∈ ct_UW := ct_w4 72 (by decide +kernel) rfl
theorem mv_143 : Cond.fieldLink RX12 35 "CellTransactionsModel" "copy" "[I" ∈ ct_UW := ct_w4 73 (by decide +kernel) rfl
theorem mv_144 : Cond.fieldLink RX12 38 "CellTransactionsModel" "history" "[I" ∈ ct_UW := ct_w4 74 (by decide +kernel) rfl
theorem mv_145 : Cond.fieldLink RX12 41 "CellTransactionsModel" "slots" "[I" ∈ ct_UW := ct_w4 76 (by decide +kernel) rfl
theorem mv_146 : Cond.fieldLink RX12 44 "CellTransactionsModel" "slotUsed" "[Z" ∈ ct_UW := ct_w4 77 (by decide +kernel) rfl
theorem mv_147 : Cond.fieldLink RX12 48 "CellTransactionsModel" "observedCell" "[I" ∈ ct_UW := ct_w4 79 (by decide +kernel) rfl
theorem mv_148 : Cond.fieldLink RX12 51 "CellTransactionsModel" "observedValue" "[I" ∈ ct_UW := ct_w4 80 (by decide +kernel) rfl
theorem mv_149 : Cond.fieldLink RX12 54 "CellTransactionsModel" "parsedValues" "[I" ∈ ct_UW := ct_w4 82 (by decide +kernel) rfl
theorem mv_150 : Cond.fieldLink RX12 57 "CellTransactionsModel" "parsedRuns" "[I" ∈ ct_UW := ct_w4 83 (by decide +kernel) rfl
theorem mv_151 : Cond.fieldLink RX12 60 "CellTransactionsModel" "parsedTokens" "[I" ∈ ct_UW := ct_w4 84 (by decide +kernel) rfl
theorem mv_152 : Cond.fieldLink RX12 63 "CellTransactionsModel" "parsedLetter" "[I" ∈ ct_UW := ct_w4 85 (by decide +kernel) rfl
theorem mv_153 : Cond.fieldLink RX12 66 "CellTransactionsModel" "parsedDigit" "[I" ∈ ct_UW := ct_w4 86 (by decide +kernel) rfl
theorem mv_154 : Cond.fieldLink RX12 69 "CellTransactionsModel" "parsedBar" "[I" ∈ ct_UW := ct_w4 87 (by decide +kernel) rfl
theorem mv_155 : Cond.fieldLink RX12 72 "CellTransactionsModel" "parsedClose" "[I" ∈ ct_UW := ct_w4 88 (by decide +kernel) rfl
theorem mv_156 : Cond.fieldLink RX12 75 "CellTransactionsModel" "stack" "[I" ∈ ct_UW := ct_w4 89 (by decide +kernel) rfl
theorem mv_157 : Cond.fieldLink RX12 78 "CellTransactionsModel" "keys" "[J" ∈ ct_UW := ct_w4 92 (by decide +kernel) rfl
theorem mv_158 : Cond.fieldLink RX12 82 "CellTransactionsModel" "outcomes" "[J" ∈ ct_UW := ct_w4 94 (by decide +kernel) rfl
theorem kx_X10_55 : ct_kV RX10 55 yX9_become cX9_become 2 none 1 := ⟨mv_86, mv_87, mv_88, mv_32, mv_89, ⟨by decide +kernel, by decide +kernel, by decide +kernel⟩⟩
theorem ki_X11_9 : ct_kI RX11 9 yX8_init cX8_init 1 0 := ⟨Or.inl (by simp [ct_nest, RX11]), mv_94, mv_93, mv_95, rfl, ⟨by decide +kernel, by decide +kernel, by decide +kernel⟩⟩
theorem ki_X11_34 : ct_kI RX11 34 yX3_init cX3_init 1 0 := ⟨Or.inl (by simp [ct_nest, RX11]), mv_106, mv_105, mv_107, rfl, ⟨by decide +kernel, by decide +kernel, by decide +kernel⟩⟩
theorem ki_X11_39 : ct_kI RX11 39 yX5_init cX5_init 1 0 := ⟨Or.inl (by simp [ct_nest, RX11]), mv_111, mv_110, mv_112, rfl, ⟨by decide +kernel, by decide +kernel, by decide +kernel⟩⟩
theorem ki_X11_40 : ct_kI RX11 40 yX10_init cX10_init 3 1 := ⟨Or.inr mv_113, mv_65, mv_63, mv_66, rfl, ⟨by decide +kernel, by decide +kernel, by decide +kernel⟩⟩
theorem ki_X11_49 : ct_kI RX11 49 yX1_init cX1_init 3 1 := ⟨Or.inr mv_118, mv_119, mv_117, mv_120, rfl, ⟨by decide +kernel, by decide +kernel, by decide +kernel⟩⟩
theorem ki_X11_59 : ct_kI RX11 59 yX6_init cX6_init 2 1 := ⟨Or.inr mv_126, mv_127, mv_125, mv_128, rfl, ⟨by decide +kernel, by decide +kernel, by decide +kernel⟩⟩
theorem kx_X11_64 : ct_kV RX11 64 yX10_addThread cX10_addThread 3 none 1 := ⟨mv_130, mv_131, mv_132, mv_63, mv_133, ⟨by decide +kernel, by decide +kernel, by decide +kernel⟩⟩
section CQ2
variable {p : Program} {l : Launch} {e : Env} {R : Room} {s : State} {mth : MethodId} {args : Array Value} {below : List Frame} {meth : Method} {c : Code} {cc : ByteArray} {nL : Nat} {own : String} {D : va_G} {cy : Nat → ClassId} {o a0 N kc ks : Nat} {f : Nat → va_E} {QQ : State → Prop} {pc : Nat} {lv : List (Nat × Value)} {st : List Value}
theorem cq_putI (C : ct_Cx p s mth c cc nL args own D cy) {ci n index k a : Nat} {C1 : String} {T : u_T} {ty : FieldType} {v : Value} (d : decode cc pc = .ok (.putfield index, 3)) (fs : List Value) (ty0 : Nat → FieldType) (hty : ∀ k, k < n → parseFieldDescriptor (T k).2.2.1 = some (ty0 k)) (hnm : ∀ a, a < n → ∀ b, b < n → a ≠ b → (T a).2.1 ≠ (T b).2.1) (ha : a < N) (haa : a0 ≤ a) (hE : f a = .inr (ci, fs)) (hc : vwCl[ci]? = some (C1, T, n)) (hin : ∀ w ∈ u_ws C1 T n, w ∈ ct_UW) (hk : k < n) (hT : (T k).1 = C1) (hfi : (T k).2.2.2 = false) (hd : ty0 k = ty) (hw : Cond.fieldLink own index C1 (T k).2.1 (T k).2.2.1 ∈ ct_UW) (hn : narrow ty v = v) (hfit : fits ty v = true) (hl0 : k < fs.length) (kk : cq_J p l e R s mth args below meth c nL D o a0 N (va_up f a (.inr (ci, fs.set k v))) kc ks QQ (pc + 3) lv st) : cq_J p l e R s mth args below meth c nL D o a0 N f kc ks QQ pc lv (v :: .ref (o + a) :: st) := by
  subst hd
  intro H locs ls hz hP hS hl
  have hK := C.2.2.2.2.2.1
  have hts := C.2.2.2.2.1
  have hap := va_apart (own := own) hts hin ty0 hty hnm hK hc
  obtain ⟨r, h1, cell, q1, q2, q3, q4⟩ := hP a _ (by rw [cq_get ha, hE])
  have hr : r = (C1, T, n) := Option.some.inj (h1.symm.trans hc)
  subst hr
  obtain ⟨hSl, hfc, kC, hkC, hkind⟩ := hK.1 ci _ hc
  obtain ⟨cf, kf, fi, fd, hi, hsl⟩ := hSl k hk
  have hlay := hts _ (hin _ (u_in_lay hk))
  unfold u_lay at hlay
  rw [if_neg (by rw [hfi]; decide)] at hlay
  have hst := (u_facts hfc hkC (u_lays hts hin hk) hi).1
  have h6 := u_store hfc hkC hkind hlay hi (hty k hk) hn hfit
  have hi2 : s.fieldFound? C1 (T k).2.1 (T k).2.2.1 = some (cf, kf, fi, fd) := by rw [← hT]; exact hi
  refine W.putK C.1 C.2.1 (f := fd) ⟨C.2.2.2.1, hts _ hw, ⟨_, _, _, hi2⟩, hst⟩ (by rw [q2]; exact h6) q1 q3 (by rw [hsl]; exact k2_hasslot (q4 k hk)) rfl rfl d fun H' e1 e2 e3 => ?_
  rw [hsl] at e1 ⊢
  refine kk H' _ ls (by rw [e2]; exact hz) ?_ (hS.put e2 e3 (by show o + a0 ≤ o + a; omega)) hl
  rw [← cq_set]
  exact hP.set cq_D (by rw [cq_get ha, hE]) ⟨_, hc, t_OB.to (V := updV (vp_V fs) k v) ⟨_, e1, q2, q3, t_set q4 hap hk v⟩ (fun j _ => vp_updV_set hl0 v j)⟩ e3
theorem cq_iast (C : ct_Cx p s mth c cc nL args own D cy) {a n : Nat} {i x : Int32} (d : decode cc pc = .ok (.iastore, 1)) (g : Nat → Int32) (ha : a < N) (haa : a0 ≤ a) (hE : f a = .inl (cy 14, n, .inl g)) (hi : vp_in i n) (kk : cq_J p l e R s mth args below meth c nL D o a0 N (va_up f a (.inl (cy 14, n, .inl (upd g i.toNatClampNeg x)))) kc ks QQ (pc + 1) lv st) : cq_J p l e R s mth args below meth c nL D o a0 N f kc ks QQ pc lv (.int x :: .int i :: .ref (o + a) :: st) := by
  intro H locs ls hz hP hS hl
  have hK := C.2.2.2.2.2.1
  have hcell : H[o + a]? = some (vp_cell (cy 14) (n, .inl g)) := hP a (o + a, .inl (cy 14, n, .inl g)) (by rw [cq_get ha, hE])
  refine W.iast C.1 C.2.1 hcell ((hK.2 1 _ rfl).1 n (fun j => .int (g j))) (fun q => by cases q) (by show ¬ (i < 0 ∨ (arrV _ _ _).slots.size ≤ _); rw [arrV_size]; exact hi) rfl rfl d fun H1 e1 z oq => ?_
  refine kk H1 _ ls (by rw [z]; exact hz) ?_ (hS.put z oq (by show o + a0 ≤ o + a; omega)) hl
  rw [← cq_set]
  refine hP.set cq_D (by rw [cq_get ha, hE]) ?_ oq
  show H1[o + a]? = some (vp_cell _ _)
  rw [e1]
  show some ((arrV (cy 14) n (fun j => .int (g j))).setSlot _ _) = some (arrV (cy 14) n (fun j => .int (upd g i.toNatClampNeg x j)))
  rw [arrV_store]
  congr 2
  funext q
  simp only [updV, upd]
  split <;> rfl
theorem cq_vret2 (C : ct_Cx p s mth c cc nL args own D cy) (hr : meth.sig.returnType = none) (hlk : meth.locks = false) {M : Nat} {g : Nat → va_E} (d : decode cc pc = .ok (.return_, 1)) (hN : N = M) (hf : ∀ k, k < N → f k = g k) : cq_J p l e R s mth args below meth c nL D o a0 N f kc ks (MQ below (va_Qv (fun _ : Unit => True) (fun _ t => cq_P D cy o M g t) (fun q => o + a0 ≤ q)) args s kc ks (fun q => o + a0 ≤ q)) pc lv [] := fun H locs ls hz hP hS hl => W.vret C.1 C.2.1 hr (fun t ht hW => ⟨⟨(), rfl, trivial, by rw [ht, hz, hN], by rw [ht, ← hN, ← cq_congr hf]; exact hP, va_K.moved hW.alike C.2.2.2.2.2.1, ct_NK_warm hW C.2.2.2.2.2.2⟩, hS.F ht⟩) hS.2.2 d
theorem cq_callM (C : ct_Cx p s mth c cc nL args own D cy) {y : MethodName} {bytes : ByteArray} {maxL index n b M ci n2 : Nat} {T : u_T} {fs : List Value} {rmg : Room} {As stk : List Value} {g : Nat → va_E} (hM : Met l y (ct_ws y bytes maxL none) rmg (va_Pc (.ref (o + b) :: As) (cq_P D cy o N f)) (va_Qv (fun _ : Unit => True) (fun _ t => cq_P D cy o M g t) (fun q => o + a0 ≤ q)) 0 0 (fun q => o + a0 ≤ q)) (d : decode cc pc = .ok (.invokevirtual index, 3)) (hk : ct_kV own index y bytes maxL none n) (hb : b < N) (hE : f b = .inr (ci, fs)) (hc : vwCl[ci]? = some (y.cls, T, n2)) (hst : stk = As.reverse ++ .ref (o + b) :: st) (hn : As.length = n) (hcat : (st.map fun v => v.category).sum ≤ 8) (hroom : rmg.cells = 0 ∧ rmg.slots = 0 ∧ rmg.frames + 1 ≤ R.frames ∧ 8 + (maxL + 11) + rmg.locals ≤ R.locals) (hcs : kc ≤ R.cells ∧ ks ≤ R.slots) (kk : cq_J p l e R s mth args below meth c nL D o a0 M g kc ks QQ (pc + 3) lv st) : cq_J p l e R s mth args below meth c nL D o a0 N f kc ks QQ pc lv stk := by
  intro H locs ls hz hP hS hl
  refine va_callv (va_runV (As := As) (rest := st) ⟨C.1, C.2.1, C.2.2.1, C.2.2.2.1, C.2.2.2.2.1⟩ hM (cwV n C.2.2.2.2.1 (ct_GI (fun w hw => by
    have hw : w ∈ [Cond.methodLink own index y, Cond.instanceMethod y, Cond.selects y.cls y y, Cond.initialized y.cls] ++ ct_ws y bytes maxL none := hw
    rcases List.mem_append.mp hw with h | h
    · simp only [List.mem_cons, List.not_mem_nil, or_false] at h
      rcases h with rfl | rfl | rfl | rfl
      · exact hk.1
      · exact hk.2.1
      · exact hk.2.2.1
      · exact hk.2.2.2.1
    · exact ct_wsin hk.2.2.2.2.1 w h)) rfl hroom.1 hroom.2.1 ⟨rfl, hk.2.2.2.2.2⟩ hroom.2.2) ⟨cq_blind _ D cy o _ f, va_recv C.2.2.2.2.2.1 hP (ci := ci) (q0 := b) hc (by rw [cq_get hb, hE]), cq_pre hz hP C.2.2.2.2.2.1 C.2.2.2.2.2.2⟩ rfl hn hl.1 hst (lv_room hcat) d hcs) hS (fun q _ h => h) (fun q h => h) (fun u t H1 locs1 ht hvm hw hB hz1 hk1 hS1 => ?_)
  obtain ⟨z1, P1, -, -⟩ := hB
  rw [ht] at z1 P1
  exact kk H1 locs1 ls z1 P1 hS1 hl
theorem cq_metM {y : MethodName} {cc : ByteArray} {nL : Nat} {rm : Room} {av : List Value} {Qc : Array Value → State → Outcome → State → Prop} {mc ms : Nat} (l : Launch) (D : va_G) (cy : Nat → ClassId) (o a N : Nat) (f : Nat → va_E) (hy : plainName y.cls = true) (hlen : (lg_sl av).length ≤ nL) (body : ∀ (p : Program) (e : Env) (s : State) (mth : MethodId) (args : Array Value) (below : List Frame) (meth : Method) (c : Code), ct_Cx p s mth c cc nL args y.cls D cy → meth.sig.returnType = none → meth.locks = false → meth.name = y.name → s.heap.size = o + N → cq_J p l e rm s mth args below meth c nL D o a N f 0 0 (MQ below Qc args s mc ms (fun q => o + a ≤ q)) 0 (lv_args 0 av) []) : Met l y (ct_ws y cc nL none) rm (va_Pc av (cq_P D cy o N f)) Qc mc ms (fun q => o + a ≤ q) := by
  refine Met.ofW (cc := cc) (maxL := nL) (ret := none) hy rfl ?_
  intro p e s mth args below meth c s₁ B hml hv
  obtain ⟨rfl, hz, hP, hK, hN⟩ := hv
  have hts := atoms_spec (ws := ct_ws y cc nL none) B.pre
  have hC : ct_Cx p s mth c cc nL av.toArray y.cls D cy := ⟨B.exec, B.bytes, hml, findClass_of_methodNamed B.named, fun w hw => hts w (List.mem_cons_of_mem _ hw), hK, hN⟩
  rw [lg_entry_eq]
  exact body p e s mth _ below meth c hC B.returns B.notSynchronized (name_of_methodNamed B.named B.method).1 hz s.heap [] _ hz hP va_S.rf (lv_entry av hlen)
end CQ2
set_option maxHeartbeats 4000000 in
set_option maxRecDepth 100000 in
theorem c_X9_become_n (l : Launch) (D : va_G) (cy : Nat → ClassId) (o : Nat) (f : Nat → va_E) (h33 : f 33 = .inr (9, [.ref (o + 11), .int 0, .int (1 : Int32), .int 0, .int 0, .int 0, .ref (o + 34), .ref (o + 36), .ref (o + 38), .int 0])) (h34 : f 34 = .inr (0, [.int 0, .ref (o + 35)])) (h36 : f 36 = .inr (0, [.int 0, .ref (o + 37)])) : Met l yX9_become (ct_ws yX9_become cX9_become 2 none) { frames := 0, cells := 0, slots := 0, locals := 0 } (va_Pc [.ref (o + 33), .int (0 : Int32)] (cq_P D cy o 1023 f)) (va_Qv (fun _ : Unit => True) (fun _ t => cq_P D cy o 1023 f t) (fun q => o + 0 ≤ q)) 0 0 (fun q => o + 0 ≤ q) := by
  refine cq_metM l D cy o 0 1023 f (by decide) (Nat.le_of_ble_eq_true rfl) (fun p e s mth args below meth c C hr hlk hin hsz => ?_)
  refine cq_sub [0, 1] [(0, .ref (o + 33)), (1, .int (0 : Int32))] rfl ?_
  refine cq_w (fun H locs ls hl hh => lv_aload_n C.1 C.2.1 dX9_become_0 rfl (lv_at hl 0 rfl) hh) ?_
  refine cq_w (fun H locs ls hl hh => lv_iload_n C.1 C.2.1 dX9_become_1 rfl (lv_at hl 1 rfl) hh) ?_
  refine cq_putI (ci := 9) C dX9_become_2 [.ref (o + 11), .int 0, .int (1 : Int32), .int 0, .int 0, .int 0, .ref (o + 34), .ref (o + 36), .ref (o + 38), .int 0] tyX9 tyX9_ok nmX9 (by decide) (by decide) (by exact h33) rfl ct_inX9 (k := 1) (by decide) rfl rfl rfl mv_78 (by rfl) (by rfl) (Nat.le_of_ble_eq_true rfl) ?_
  refine cq_conv (f) (fun k _ => cq_keep (by exact h33) k) ?_
  refine cq_w (fun H locs ls hl hh => lv_aload_n C.1 C.2.1 dX9_become_5 rfl (lv_at hl 0 rfl) hh) ?_
  refine cq_w (fun H locs ls hl hh => lv_iconst (v := (0 : Int32)) C.1 C.2.1 dX9_become_6 (by decide) hh) ?_
  refine cq_putI (ci := 9) C dX9_become_7 [.ref (o + 11), .int 0, .int (1 : Int32), .int 0, .int 0, .int 0, .ref (o + 34), .ref (o + 36), .ref (o + 38), .int 0] tyX9 tyX9_ok nmX9 (by decide) (by decide) (by exact h33) rfl ct_inX9 (k := 4) (by decide) rfl rfl rfl mv_79 (by rfl) (by rfl) (Nat.le_of_ble_eq_true rfl) ?_
  refine cq_conv (f) (fun k _ => cq_keep (by exact h33) k) ?_
  refine cq_w (fun H locs ls hl hh => lv_aload_n C.1 C.2.1 dX9_become_10 rfl (lv_at hl 0 rfl) hh) ?_
  refine cq_w (fun H locs ls hl hh => lv_iconst (v := (0 : Int32)) C.1 C.2.1 dX9_become_11 (by decide) hh) ?_
  refine cq_putI (ci := 9) C dX9_become_12 [.ref (o + 11), .int 0, .int (1 : Int32), .int 0, .int 0, .int 0, .ref (o + 34), .ref (o + 36), .ref (o + 38), .int 0] tyX9 tyX9_ok nmX9 (by decide) (by decide) (by exact h33) rfl ct_inX9 (k := 5) (by decide) rfl rfl rfl mv_80 (by rfl) (by rfl) (Nat.le_of_ble_eq_true rfl) ?_
  refine cq_conv (f) (fun k _ => cq_keep (by exact h33) k) ?_
  refine cq_w (fun H locs ls hl hh => lv_aload_n C.1 C.2.1 dX9_become_15 rfl (lv_at hl 0 rfl) hh) ?_
  refine cq_get1 (ci := 9) (v := .ref (o + 34)) C dX9_become_16 [.ref (o + 11), .int 0, .int (1 : Int32), .int 0, .int 0, .int 0, .ref (o + 34), .ref (o + 36), .ref (o + 38), .int 0] (by decide) (by exact h33) rfl ct_inX9 (k := 6) (by decide) rfl mv_14 rfl ?_
  refine cq_w (fun H locs ls hl hh => lv_iconst (v := (0 : Int32)) C.1 C.2.1 dX9_become_19 (by decide) hh) ?_
  refine cq_putI (ci := 0) C dX9_become_20 [.int 0, .ref (o + 35)] tyX0 tyX0_ok nmX0 (by decide) (by decide) (by exact h34) rfl ct_inX0 (k := 0) (by decide) rfl rfl rfl mv_81 (by rfl) (by rfl) (Nat.le_of_ble_eq_true rfl) ?_
  refine cq_conv (f) (fun k _ => cq_keep (by exact h34) k) ?_
  refine cq_w (fun H locs ls hl hh => lv_aload_n C.1 C.2.1 dX9_become_23 rfl (lv_at hl 0 rfl) hh) ?_
  refine cq_get1 (ci := 9) (v := .ref (o + 36)) C dX9_become_24 [.ref (o + 11), .int 0, .int (1 : Int32), .int 0, .int 0, .int 0, .ref (o + 34), .ref (o + 36), .ref (o + 38), .int 0] (by decide) (by exact h33) rfl ct_inX9 (k := 7) (by decide) rfl mv_15 rfl ?_
  refine cq_w (fun H locs ls hl hh => lv_iconst (v := (0 : Int32)) C.1 C.2.1 dX9_become_27 (by decide) hh) ?_
  refine cq_putI (ci := 0) C dX9_become_28 [.int 0, .ref (o + 37)] tyX0 tyX0_ok nmX0 (by decide) (by decide) (by exact h36) rfl ct_inX0 (k := 0) (by decide) rfl rfl rfl mv_81 (by rfl) (by rfl) (Nat.le_of_ble_eq_true rfl) ?_
  refine cq_conv (f) (fun k _ => cq_keep (by exact h36) k) ?_
  refine cq_w (fun H locs ls hl hh => lv_aload_n C.1 C.2.1 dX9_become_31 rfl (lv_at hl 0 rfl) hh) ?_
  refine cq_w (fun H locs ls hl hh => lv_iconst (v := (0 : Int32)) C.1 C.2.1 dX9_become_32 (by decide) hh) ?_
  refine cq_putI (ci := 9) C dX9_become_33 [.ref (o + 11), .int 0, .int (1 : Int32), .int 0, .int 0, .int 0, .ref (o + 34), .ref (o + 36), .ref (o + 38), .int 0] tyX9 tyX9_ok nmX9 (by decide) (by decide) (by exact h33) rfl ct_inX9 (k := 9) (by decide) rfl rfl rfl mv_82 (by rfl) (by rfl) (Nat.le_of_ble_eq_true rfl) ?_
  refine cq_conv (f) (fun k _ => cq_keep (by exact h33) k) ?_
  exact cq_vret2 C hr hlk dX9_become_36 rfl (fun k hk => rfl)
abbrev cq_f2 (o : Nat) (f : Nat → va_E) : Nat → va_E := va_up (va_up (f) 33 (.inr (9, [.ref (o + 11), .int 0, .int (1 : Int32), .int 0, .int 0, .int 0, .ref (o + 34), .ref (o + 36), .ref (o + 38), .int 0]))) 26 (.inr (10, [.ref (o + 27), .ref (o + 28), .ref (o + 29), .int (1 : Int32), .ref (o + 30), .ref (o + 31), .ref (o + 32), .int 0]))
set_option maxHeartbeats 4000000 in
set_option maxRecDepth 100000 in
theorem c_X10_addThread_n (l : Launch) (D : va_G) (cy : Nat → ClassId) (o : Nat) (f : Nat → va_E) (h26 : f 26 = .inr (10, [.ref (o + 27), .ref (o + 28), .ref (o + 29), .int 0, .ref (o + 30), .ref (o + 31), .ref (o + 32), .int 0])) (h29 : f 29 = .inl (cy 19, 3, .inr (.inr (.inr (.inr (fun i => some (o + (29 + 4 + 15 * i)))))))) (h33 : f 33 = .inr (9, [.ref (o + 11), .int 0, .int 0, .int 0, .int 0, .int 0, .ref (o + 34), .ref (o + 36), .ref (o + 38), .int 0])) (h34 : f 34 = .inr (0, [.int 0, .ref (o + 35)])) (h36 : f 36 = .inr (0, [.int 0, .ref (o + 37)])) : Met l yX10_addThread (ct_ws yX10_addThread cX10_addThread 3 none) { frames := 1, cells := 0, slots := 0, locals := 21 } (va_Pc [.ref (o + 26), .int (1 : Int32)] (cq_P D cy o 1023 f)) (va_Qv (fun _ : Unit => True) (fun _ t => cq_P D cy o 1023 (cq_f2 o f) t) (fun q => o + 0 ≤ q)) 0 0 (fun q => o + 0 ≤ q) := by
  refine cq_metM l D cy o 0 1023 f (by decide) (Nat.le_of_ble_eq_true rfl) (fun p e s mth args below meth c C hr hlk hin hsz => ?_)
  refine cq_sub [0, 1] [(0, .ref (o + 26)), (1, .int (1 : Int32))] rfl ?_
  refine cq_w (fun H locs ls hl hh => lv_aload_n C.1 C.2.1 dX10_addThread_0 rfl (lv_at hl 0 rfl) hh) ?_
  refine cq_get1 (ci := 10) (v := .int (0 : Int32)) C dX10_addThread_1 [.ref (o + 27), .ref (o + 28), .ref (o + 29), .int 0, .ref (o + 30), .ref (o + 31), .ref (o + 32), .int 0] (by decide) (by exact h26) rfl ct_inX10 (k := 3) (by decide) rfl mv_83 rfl ?_
  refine cq_w (fun H locs ls hl hh => lv_if_lt (tgt := 50) C.1 C.2.1 dX10_addThread_4 (by decide) (fun hc => absurd hc (by decide)) (fun _ => hh)) ?_
  refine cq_w (fun H locs ls hl hh => lv_aload_n C.1 C.2.1 dX10_addThread_7 rfl (lv_at hl 0 rfl) hh) ?_
  refine cq_get1 (ci := 10) (v := .int (0 : Int32)) C dX10_addThread_8 [.ref (o + 27), .ref (o + 28), .ref (o + 29), .int 0, .ref (o + 30), .ref (o + 31), .ref (o + 32), .int 0] (by decide) (by exact h26) rfl ct_inX10 (k := 3) (by decide) rfl mv_83 rfl ?_
  refine cq_w (fun H locs ls hl hh => lv_iconst (v := (3 : Int32)) C.1 C.2.1 dX10_addThread_11 (by decide) hh) ?_
  refine cq_w (fun H locs ls hl hh => lv_icmp_ge (tgt := 50) C.1 C.2.1 dX10_addThread_12 (by decide) (fun hc => absurd hc (by decide)) (fun _ => hh)) ?_
  refine cq_w (fun H locs ls hl hh => lv_aload_n C.1 C.2.1 dX10_addThread_15 rfl (lv_at hl 0 rfl) hh) ?_
  refine cq_get1 (ci := 10) (v := .ref (o + 29)) C dX10_addThread_16 [.ref (o + 27), .ref (o + 28), .ref (o + 29), .int 0, .ref (o + 30), .ref (o + 31), .ref (o + 32), .int 0] (by decide) (by exact h26) rfl ct_inX10 (k := 2) (by decide) rfl mv_27 rfl ?_
  refine cq_w (fun H locs ls hl hh => lv_aload_n C.1 C.2.1 dX10_addThread_19 rfl (lv_at hl 0 rfl) hh) ?_
  refine cq_get1 (ci := 10) (v := .int (0 : Int32)) C dX10_addThread_20 [.ref (o + 27), .ref (o + 28), .ref (o + 29), .int 0, .ref (o + 30), .ref (o + 31), .ref (o + 32), .int 0] (by decide) (by exact h26) rfl ct_inX10 (k := 3) (by decide) rfl mv_83 rfl ?_
  refine cq_aald (t0 := 6) (v := o + 33) C dX10_addThread_23 (by decide) (by exact h29) rfl (by unfold vp_in; decide) rfl ?_
  refine cq_store (lv' := [(2, .ref (o + 33)), (0, .ref (o + 26)), (1, .int (1 : Int32))]) (fun H locs ls hl hh => lv_astore_n C.1 C.2.1 dX10_addThread_24 rfl hl (by decide) rfl hh) ?_
  refine cq_w (fun H locs ls hl hh => lv_aload_n C.1 C.2.1 dX10_addThread_25 rfl (lv_at hl 0 rfl) hh) ?_
  refine cq_w (fun H locs ls hl hh => lv_iload_n C.1 C.2.1 dX10_addThread_26 rfl (lv_at hl 2 rfl) hh) ?_
  refine cq_putI (ci := 9) C dX10_addThread_27 [.ref (o + 11), .int 0, .int 0, .int 0, .int 0, .int 0, .ref (o + 34), .ref (o + 36), .ref (o + 38), .int 0] tyX9 tyX9_ok nmX9 (by decide) (by decide) (by exact h33) rfl ct_inX9 (k := 2) (by decide) rfl rfl rfl mv_84 (by rfl) (by rfl) (Nat.le_of_ble_eq_true rfl) ?_
  refine cq_conv (va_up (f) 33 (.inr (9, [.ref (o + 11), .int 0, .int (1 : Int32), .int 0, .int 0, .int 0, .ref (o + 34), .ref (o + 36), .ref (o + 38), .int 0]))) (fun k _ => rfl) ?_
  refine cq_w (fun H locs ls hl hh => lv_aload_n C.1 C.2.1 dX10_addThread_30 rfl (lv_at hl 0 rfl) hh) ?_
  refine cq_w (fun H locs ls hl hh => lv_iconst (v := (0 : Int32)) C.1 C.2.1 dX10_addThread_31 (by decide) hh) ?_
  refine cq_putI (ci := 9) C dX10_addThread_32 [.ref (o + 11), .int 0, .int (1 : Int32), .int 0, .int 0, .int 0, .ref (o + 34), .ref (o + 36), .ref (o + 38), .int 0] tyX9 tyX9_ok nmX9 (by decide) (by decide) (by rw [va_up_self]) rfl ct_inX9 (k := 3) (by decide) rfl rfl rfl mv_85 (by rfl) (by rfl) (Nat.le_of_ble_eq_true rfl) ?_
  refine cq_conv (va_up (f) 33 (.inr (9, [.ref (o + 11), .int 0, .int (1 : Int32), .int 0, .int 0, .int 0, .ref (o + 34), .ref (o + 36), .ref (o + 38), .int 0]))) (fun k _ => by simp only [va_up] <;> (repeat' split) <;> first | rfl | (exfalso; omega)) ?_
  refine cq_w (fun H locs ls hl hh => lv_aload_n C.1 C.2.1 dX10_addThread_35 rfl (lv_at hl 0 rfl) hh) ?_
  refine cq_w (fun H locs ls hl hh => lv_iconst (v := (0 : Int32)) C.1 C.2.1 dX10_addThread_36 (by decide) hh) ?_
  refine cq_callM (T := TX9) (As := [.int (0 : Int32)]) C (c_X9_become_n l D cy o _ (by rw [va_up_self]) (by rw [va_up_ne _ _ (by decide)]; exact h34) (by rw [va_up_ne _ _ (by decide)]; exact h36)) dX10_addThread_37 kx_X10_55 (by decide) (by rw [va_up_self]) rfl rfl rfl (Nat.le_of_ble_eq_true rfl) ⟨rfl, rfl, Nat.le_of_ble_eq_true rfl, Nat.le_of_ble_eq_true rfl⟩ ⟨Nat.zero_le _, Nat.zero_le _⟩ ?_
  refine cq_w (fun H locs ls hl hh => lv_aload_n C.1 C.2.1 dX10_addThread_40 rfl (lv_at hl 1 rfl) hh) ?_
  refine cq_w (fun H locs ls hl hh => lv_dup C.1 C.2.1 dX10_addThread_41 rfl hh) ?_
  refine cq_get1 (ci := 10) (v := .int (0 : Int32)) C dX10_addThread_42 [.ref (o + 27), .ref (o + 28), .ref (o + 29), .int 0, .ref (o + 30), .ref (o + 31), .ref (o + 32), .int 0] (by decide) (by rw [va_up_ne _ _ (by decide)]; exact h26) rfl ct_inX10 (k := 3) (by decide) rfl mv_83 rfl ?_
  refine cq_w (fun H locs ls hl hh => lv_iconst (v := (1 : Int32)) C.1 C.2.1 dX10_addThread_45 (by decide) hh) ?_
  refine cq_w (st' := .int (1 : Int32) :: _) (fun H locs ls hl hh => lv_iadd C.1 C.2.1 dX10_addThread_46 hh) ?_
  refine cq_putI (ci := 10) C dX10_addThread_47 [.ref (o + 27), .ref (o + 28), .ref (o + 29), .int 0, .ref (o + 30), .ref (o + 31), .ref (o + 32), .int 0] tyX10 tyX10_ok nmX10 (by decide) (by decide) (by rw [va_up_ne _ _ (by decide)]; exact h26) rfl ct_inX10 (k := 3) (by decide) rfl rfl rfl mv_83 (by rfl) (by rfl) (Nat.le_of_ble_eq_true rfl) ?_
  refine cq_conv (va_up (va_up (f) 33 (.inr (9, [.ref (o + 11), .int 0, .int (1 : Int32), .int 0, .int 0, .int 0, .ref (o + 34), .ref (o + 36), .ref (o + 38), .int 0]))) 26 (.inr (10, [.ref (o + 27), .ref (o + 28), .ref (o + 29), .int (1 : Int32), .ref (o + 30), .ref (o + 31), .ref (o + 32), .int 0]))) (fun k _ => rfl) ?_
  exact cq_vret2 C hr hlk dX10_addThread_50 rfl (fun k hk => rfl)
abbrev rq_X11_init : Room := { frames := 6, cells := 1022, slots := 12038, locals := 118 }
set_option maxHeartbeats 4000000 in
set_option maxRecDepth 100000 in
theorem c_X11_init (l : Launch) (D : va_G) (cy : Nat → ClassId) (o : Nat) (f : Nat → va_E) (hfa : f 0 = .inr (11, [.null, .null, .null, .null, .null, .null, .null, .null, .null])) : Met l yX11_init (ct_ws yX11_init cX11_init 2 none) rq_X11_init (va_Pc [.ref (o + 0)] (cq_P D cy o (0 + 1) f)) (va_Qv (fun _ : Unit => True) (fun _ t => cq_P D cy o 1023 (cq_f2 o (ct_E cy o ct_mz)) t) (fun q => o + 0 ≤ q)) 1022 12038 (fun q => o + 0 ≤ q) := by
  refine cq_met l D cy o 0 f (by decide) rfl (Nat.le_of_ble_eq_true rfl) (fun p e s mth args below meth c C hr hlk hin hlo => ?_)
  refine cq_sub [0] [(0, .ref (o + 0))] rfl ?_
  refine cq_w (fun H locs ls hl hh => lv_aload_n C.1 C.2.1 dX11_init_0 rfl (lv_at hl 0 rfl) hh) ?_
  refine cq_obj C mv_90 mv_1 mv_2 dX11_init_1 (Nat.le_of_ble_eq_true rfl) (Nat.le_of_ble_eq_true rfl) ?_
  refine cq_conv (va_up (cq_fin cy o 0 f) 0 (.inr (11, [.null, .null, .null, .null, .null, .null, .null, .null, .null]))) (fun k hk => by
      by_cases h1 : k = 0
      · rw [h1, va_up_self]; exact hfa
      · rw [va_up_ne _ _ h1]; exact (if_pos (by omega)).symm) ?_
  refine cq_num (N' := 1) (kc' := 0) (ks' := 0) rfl rfl rfl ?_
  refine cq_w (fun H locs ls hl hh => lv_aload_n C.1 C.2.1 dX11_init_4 rfl (lv_at hl 0 rfl) hh) ?_
  refine cq_new (ci := 8) C dX11_init_5 [.null, .int 0, .null] tyX8 tyX8_ok ct_inX8 mv_91 mv_92 mv_93 rfl (by decide +kernel) hlo (Nat.le_of_ble_eq_true rfl) (Nat.le_of_ble_eq_true rfl) ?_
  refine cq_w (fun H locs ls hl hh => lv_dup C.1 C.2.1 dX11_init_8 rfl hh) ?_
  refine cq_call (b := 1) (sz := 4) (mc := 3) (ms := 68) (As := []) (rmg := rq_X8_init) C (c_X8_init l D cy o 1 (⟨by decide, by decide⟩ : ct_K 8 1) _ (va_up_self _ _ _)) dX11_init_9 ki_X11_9 (by decide) rfl rfl (Nat.le_of_ble_eq_true rfl) ⟨rfl, rfl, Nat.le_of_ble_eq_true rfl, Nat.le_of_ble_eq_true rfl⟩ ⟨Nat.le_of_ble_eq_true rfl, Nat.le_of_ble_eq_true rfl⟩ ?_
  refine cq_conv (va_up (cq_fin cy o 0 f) 0 (.inr (11, [.null, .null, .null, .null, .null, .null, .null, .null, .null]))) (fun k _ => cq_back (cq_ab_up (by decide) (cq_ab_fin (by decide))) k) ?_
  refine cq_num (N' := 5) (kc' := 4) (ks' := 71) rfl rfl rfl ?_
  refine cq_putF (ci := 11) C dX11_init_12 [.null, .null, .null, .null, .null, .null, .null, .null, .null] tyX11 tyX11_ok nmX11 (by decide) (by decide) (by rw [va_up_self]) rfl ct_inX11 (k := 0) (by decide) rfl rfl rfl hin rfl mv_96 (by rfl) (by rfl) (Nat.le_of_ble_eq_true rfl) ?_
  refine cq_conv (va_up (cq_fin cy o 0 f) 0 (.inr (11, [.ref (o + 1), .null, .null, .null, .null, .null, .null, .null, .null]))) (fun k _ => by simp only [va_up] <;> (repeat' split) <;> first | rfl | (exfalso; omega)) ?_
  refine cq_w (fun H locs ls hl hh => lv_aload_n C.1 C.2.1 dX11_init_15 rfl (lv_at hl 0 rfl) hh) ?_
  refine cq_w (fun H locs ls hl hh => lv_iconst (v := (3 : Int32)) C.1 C.2.1 dX11_init_16 (by decide) hh) ?_
  refine cq_newq C dX11_init_17 3 5 18 mv_97 C.2.2.2.2.2.2.2.2.1 rfl (by decide) (by decide) (Nat.le_of_ble_eq_true rfl) (Nat.le_of_ble_eq_true rfl) (Nat.le_of_ble_eq_true rfl) hlo ?_
  rw [cq_g0 (fun i => some (o + (5 + 6 + 5 * i)))]
  refine cq_num (N' := 6) (kc' := 5) (ks' := 74) rfl rfl rfl ?_
  refine cq_putF (ci := 11) C dX11_init_20 [.ref (o + 1), .null, .null, .null, .null, .null, .null, .null, .null] tyX11 tyX11_ok nmX11 (by decide) (by decide) (by rw [va_up_ne _ _ (by decide), va_up_self]) rfl ct_inX11 (k := 1) (by decide) rfl rfl rfl hin rfl mv_98 (by rfl) (by rfl) (Nat.le_of_ble_eq_true rfl) ?_
  refine cq_conv (va_up (va_up (cq_fin cy o 0 f) 0 (.inr (11, [.ref (o + 1), .ref (o + 5), .null, .null, .null, .null, .null, .null, .null]))) 5 (.inl (cy 18, 3, .inr (.inr (.inr (.inr (cq_g 0 (fun i => some (o + (5 + 6 + 5 * i)))))))))) (fun k _ => by simp only [va_up] <;> (repeat' split) <;> first | rfl | (exfalso; omega)) ?_
  refine cq_w (fun H locs ls hl hh => lv_aload_n C.1 C.2.1 dX11_init_23 rfl (lv_at hl 0 rfl) hh) ?_
  refine cq_w (fun H locs ls hl hh => lv_iconst (v := (2 : Int32)) C.1 C.2.1 dX11_init_24 (by decide) hh) ?_
  refine cq_newq C dX11_init_25 2 7 20 mv_99 C.2.2.2.2.2.2.2.2.2.2 rfl (by decide) (by decide) (Nat.le_of_ble_eq_true rfl) (Nat.le_of_ble_eq_true rfl) (Nat.le_of_ble_eq_true rfl) hlo ?_
  rw [cq_g0 (fun i => some (o + (ct_elW 6 i)))]
  refine cq_num (N' := 7) (kc' := 6) (ks' := 76) rfl rfl rfl ?_
  refine cq_putF (ci := 11) C dX11_init_28 [.ref (o + 1), .ref (o + 5), .null, .null, .null, .null, .null, .null, .null] tyX11 tyX11_ok nmX11 (by decide) (by decide) (by rw [va_up_ne _ _ (by decide), va_up_ne _ _ (by decide), va_up_self]) rfl ct_inX11 (k := 4) (by decide) rfl rfl rfl hin rfl mv_100 (by rfl) (by rfl) (Nat.le_of_ble_eq_true rfl) ?_
  refine cq_conv (va_up (va_up (va_up (cq_fin cy o 0 f) 0 (.inr (11, [.ref (o + 1), .ref (o + 5), .null, .null, .ref (o + 6), .null, .null, .null, .null]))) 5 (.inl (cy 18, 3, .inr (.inr (.inr (.inr (cq_g 0 (fun i => some (o + (5 + 6 + 5 * i)))))))))) 6 (.inl (cy 20, 2, .inr (.inr (.inr (.inr (cq_g 0 (fun i => some (o + (ct_elW 6 i)))))))))) (fun k _ => by simp only [va_up] <;> (repeat' split) <;> first | rfl | (exfalso; omega)) ?_
  refine cq_w (fun H locs ls hl hh => lv_aload_n C.1 C.2.1 dX11_init_31 rfl (lv_at hl 0 rfl) hh) ?_
  refine cq_w (fun H locs ls hl hh => lv_iconst (v := (2 : Int32)) C.1 C.2.1 dX11_init_32 (by decide) hh) ?_
  have hq1 : ct_E cy o ct_mz 7 = .inl (cy 16, 2, .inl (fun _ => 0)) := by rw [ct_E16 (⟨by decide, by decide⟩ : ct_K 16 7)]; rfl
  refine cq_rowI C dX11_init_33 2 (2, .inl (fun _ => 0)) 3 16 .boolean (cq_ab_up (by decide) (cq_ab_up (by decide) (cq_ab_up (by decide) (cq_ab_fin (by decide))))) hq1 rfl (fun C h => by cases h) mv_101 rfl (fun _ => rfl) (by decide) (by decide) (Nat.le_of_ble_eq_true rfl) (Nat.le_of_ble_eq_true rfl) (Nat.le_of_ble_eq_true rfl) hlo ?_
  refine cq_num (N' := 8) (kc' := 7) (ks' := 78) rfl rfl rfl ?_
  refine cq_putF (ci := 11) C dX11_init_35 [.ref (o + 1), .ref (o + 5), .null, .null, .ref (o + 6), .null, .null, .null, .null] tyX11 tyX11_ok nmX11 (by decide) (by decide) (by rw [va_up_ne _ _ (by decide), va_up_ne _ _ (by decide), va_up_self]) rfl ct_inX11 (k := 5) (by decide) rfl rfl rfl hin rfl mv_102 (by rfl) (by rfl) (Nat.le_of_ble_eq_true rfl) ?_
  refine cq_conv (va_up (va_up (va_up (cq_fin cy o 0 f) 0 (.inr (11, [.ref (o + 1), .ref (o + 5), .null, .null, .ref (o + 6), .ref (o + 7), .null, .null, .null]))) 5 (.inl (cy 18, 3, .inr (.inr (.inr (.inr (cq_g 0 (fun i => some (o + (5 + 6 + 5 * i)))))))))) 6 (.inl (cy 20, 2, .inr (.inr (.inr (.inr (cq_g 0 (fun i => some (o + (ct_elW 6 i)))))))))) (fun k _ => by simp only [va_up] <;> (repeat' split) <;> first | rfl | (exfalso; omega)) ?_
  refine cq_w (fun H locs ls hl hh => lv_aload_n C.1 C.2.1 dX11_init_38 rfl (lv_at hl 0 rfl) hh) ?_
  refine cq_new (ci := 3) C dX11_init_39 [.null, .null, .int 0, .int 0] tyX3 tyX3_ok ct_inX3 mv_103 mv_104 mv_105 rfl (by decide +kernel) hlo (Nat.le_of_ble_eq_true rfl) (Nat.le_of_ble_eq_true rfl) ?_
  refine cq_w (fun H locs ls hl hh => lv_dup C.1 C.2.1 dX11_init_42 rfl hh) ?_
  refine cq_call (b := 8) (sz := 3) (mc := 2) (ms := 8) (As := []) (rmg := rq_X3_init) C (c_X3_init l D cy o 8 (⟨by decide, by decide⟩ : ct_K 3 8) _ (va_up_self _ _ _)) dX11_init_43 ki_X11_34 (by decide) rfl rfl (Nat.le_of_ble_eq_true rfl) ⟨rfl, rfl, Nat.le_of_ble_eq_true rfl, Nat.le_of_ble_eq_true rfl⟩ ⟨Nat.le_of_ble_eq_true rfl, Nat.le_of_ble_eq_true rfl⟩ ?_
  refine cq_conv (va_up (va_up (va_up (cq_fin cy o 0 f) 0 (.inr (11, [.ref (o + 1), .ref (o + 5), .null, .null, .ref (o + 6), .ref (o + 7), .null, .null, .null]))) 5 (.inl (cy 18, 3, .inr (.inr (.inr (.inr (cq_g 0 (fun i => some (o + (5 + 6 + 5 * i)))))))))) 6 (.inl (cy 20, 2, .inr (.inr (.inr (.inr (cq_g 0 (fun i => some (o + (ct_elW 6 i)))))))))) (fun k _ => cq_back (cq_ab_up (by decide) (cq_ab_up (by decide) (cq_ab_up (by decide) (cq_ab_fin (by decide))))) k) ?_
  refine cq_num (N' := 11) (kc' := 10) (ks' := 90) rfl rfl rfl ?_
  refine cq_putF (ci := 11) C dX11_init_46 [.ref (o + 1), .ref (o + 5), .null, .null, .ref (o + 6), .ref (o + 7), .null, .null, .null] tyX11 tyX11_ok nmX11 (by decide) (by decide) (by rw [va_up_ne _ _ (by decide), va_up_ne _ _ (by decide), va_up_self]) rfl ct_inX11 (k := 7) (by decide) rfl rfl rfl hin rfl mv_108 (by rfl) (by rfl) (Nat.le_of_ble_eq_true rfl) ?_
  refine cq_conv (va_up (va_up (va_up (cq_fin cy o 0 f) 0 (.inr (11, [.ref (o + 1), .ref (o + 5), .null, .null, .ref (o + 6), .ref (o + 7), .null, .ref (o + 8), .null]))) 5 (.inl (cy 18, 3, .inr (.inr (.inr (.inr (cq_g 0 (fun i => some (o + (5 + 6 + 5 * i)))))))))) 6 (.inl (cy 20, 2, .inr (.inr (.inr (.inr (cq_g 0 (fun i => some (o + (ct_elW 6 i)))))))))) (fun k _ => by simp only [va_up] <;> (repeat' split) <;> first | rfl | (exfalso; omega)) ?_
  refine cq_w (fun H locs ls hl hh => lv_iconst (v := (0 : Int32)) C.1 C.2.1 dX11_init_49 (by decide) hh) ?_
  refine cq_store (lv' := [(1, .int (0 : Int32)), (0, .ref (o + 0))]) (fun H locs ls hl hh => lv_istore_n C.1 C.2.1 dX11_init_50 rfl hl (by decide) rfl hh) ?_
  refine cq_w (fun H locs ls hl hh => lv_iload_n C.1 C.2.1 dX11_init_51 rfl (lv_at hl 0 rfl) hh) ?_
  refine cq_w (fun H locs ls hl hh => lv_iconst (v := (3 : Int32)) C.1 C.2.1 dX11_init_52 (by decide) hh) ?_
  refine cq_w (fun H locs ls hl hh => lv_icmp_ge (tgt := 75) C.1 C.2.1 dX11_init_53 (by decide) (fun hc => absurd hc (by decide)) (fun _ => hh)) ?_
  refine cq_w (fun H locs ls hl hh => lv_aload_n C.1 C.2.1 dX11_init_56 rfl (lv_at hl 1 rfl) hh) ?_
  refine cq_get1 (ci := 11) (v := .ref (o + 5)) C dX11_init_57 [.ref (o + 1), .ref (o + 5), .null, .null, .ref (o + 6), .ref (o + 7), .null, .ref (o + 8), .null] (by decide) (by rw [va_up_ne _ _ (by decide), va_up_ne _ _ (by decide), va_up_self]) rfl ct_inX11 (k := 1) (by decide) rfl mv_98 rfl ?_
  refine cq_w (fun H locs ls hl hh => lv_iload_n C.1 C.2.1 dX11_init_60 rfl (lv_at hl 0 rfl) hh) ?_
  refine cq_new (ci := 5) C dX11_init_61 [.null, .null, .null, .int 0, .null, .int 0] tyX5 tyX5_ok ct_inX5 mv_97 mv_109 mv_110 rfl (by decide +kernel) hlo (Nat.le_of_ble_eq_true rfl) (Nat.le_of_ble_eq_true rfl) ?_
  refine cq_w (fun H locs ls hl hh => lv_dup C.1 C.2.1 dX11_init_64 rfl hh) ?_
  refine cq_call (b := 11) (sz := 5) (mc := 4) (ms := 183) (As := []) (rmg := rq_X5_init) C (c_X5_init l D cy o 11 (⟨by decide, by decide⟩ : ct_K 5 11) _ (va_up_self _ _ _)) dX11_init_65 ki_X11_39 (by decide) rfl rfl (Nat.le_of_ble_eq_true rfl) ⟨rfl, rfl, Nat.le_of_ble_eq_true rfl, Nat.le_of_ble_eq_true rfl⟩ ⟨Nat.le_of_ble_eq_true rfl, Nat.le_of_ble_eq_true rfl⟩ ?_
  refine cq_conv (va_up (va_up (va_up (cq_fin cy o 0 f) 0 (.inr (11, [.ref (o + 1), .ref (o + 5), .null, .null, .ref (o + 6), .ref (o + 7), .null, .ref (o + 8), .null]))) 5 (.inl (cy 18, 3, .inr (.inr (.inr (.inr (cq_g 0 (fun i => some (o + (5 + 6 + 5 * i)))))))))) 6 (.inl (cy 20, 2, .inr (.inr (.inr (.inr (cq_g 0 (fun i => some (o + (ct_elW 6 i)))))))))) (fun k _ => cq_back (cq_ab_up (by decide) (cq_ab_up (by decide) (cq_ab_up (by decide) (cq_ab_fin (by decide))))) k) ?_
  refine cq_num (N' := 16) (kc' := 15) (ks' := 279) rfl rfl rfl ?_
  refine cq_aast (t0 := 5) (r := (RX5, TX5, 6)) (b := 11) C dX11_init_68 (cq_g 0 (fun i => some (o + (5 + 6 + 5 * i)))) (by decide) (by decide) (by rw [va_up_ne _ _ (by decide), va_up_self]) rfl (by decide) (by rw [va_up_ne _ _ (by decide), va_up_ne _ _ (by decide), va_up_ne _ _ (by decide)]; unfold cq_fin; rw [if_neg (by decide), ct_E5 (⟨by decide, by decide⟩ : ct_K 5 11)] <;> rfl) rfl (by unfold vp_in; decide) ?_
  have hg2 : va_up (cq_g 0 (fun i => some (o + (5 + 6 + 5 * i)))) (0 : Int32).toNatClampNeg (some (o + 11)) = cq_g 1 (fun i => some (o + (5 + 6 + 5 * i))) := by
      have h2 : (fun i => some (o + (5 + 6 + 5 * i))) 0 = some (o + 11) := rfl
      rw [← h2]; exact cq_g1 0 _
  rw [hg2]
  refine cq_conv (va_up (va_up (va_up (cq_fin cy o 0 f) 0 (.inr (11, [.ref (o + 1), .ref (o + 5), .null, .null, .ref (o + 6), .ref (o + 7), .null, .ref (o + 8), .null]))) 5 (.inl (cy 18, 3, .inr (.inr (.inr (.inr (cq_g 1 (fun i => some (o + (5 + 6 + 5 * i)))))))))) 6 (.inl (cy 20, 2, .inr (.inr (.inr (.inr (cq_g 0 (fun i => some (o + (ct_elW 6 i)))))))))) (fun k _ => by simp only [va_up] <;> (repeat' split) <;> first | rfl | (exfalso; omega)) ?_
  refine cq_store (lv' := [(1, .int (1 : Int32)), (0, .ref (o + 0))]) (fun H locs ls hl hh => lv_iinc (k := 0) (v := (1 : Int32)) C.1 C.2.1 dX11_init_69 hl rfl (by decide) (by decide) rfl hh) ?_
  refine cq_w (fun H locs ls hl hh => lv_goto (tgt := 51) C.1 C.2.1 dX11_init_72 (by decide) hh) ?_
  refine cq_w (fun H locs ls hl hh => lv_iload_n C.1 C.2.1 dX11_init_51 rfl (lv_at hl 0 rfl) hh) ?_
  refine cq_w (fun H locs ls hl hh => lv_iconst (v := (3 : Int32)) C.1 C.2.1 dX11_init_52 (by decide) hh) ?_
  refine cq_w (fun H locs ls hl hh => lv_icmp_ge (tgt := 75) C.1 C.2.1 dX11_init_53 (by decide) (fun hc => absurd hc (by decide)) (fun _ => hh)) ?_
  refine cq_w (fun H locs ls hl hh => lv_aload_n C.1 C.2.1 dX11_init_56 rfl (lv_at hl 1 rfl) hh) ?_
  refine cq_get1 (ci := 11) (v := .ref (o + 5)) C dX11_init_57 [.ref (o + 1), .ref (o + 5), .null, .null, .ref (o + 6), .ref (o + 7), .null, .ref (o + 8), .null] (by decide) (by rw [va_up_ne _ _ (by decide), va_up_ne _ _ (by decide), va_up_self]) rfl ct_inX11 (k := 1) (by decide) rfl mv_98 rfl ?_
  refine cq_w (fun H locs ls hl hh => lv_iload_n C.1 C.2.1 dX11_init_60 rfl (lv_at hl 0 rfl) hh) ?_
  refine cq_new (ci := 5) C dX11_init_61 [.null, .null, .null, .int 0, .null, .int 0] tyX5 tyX5_ok ct_inX5 mv_97 mv_109 mv_110 rfl (by decide +kernel) hlo (Nat.le_of_ble_eq_true rfl) (Nat.le_of_ble_eq_true rfl) ?_
  refine cq_w (fun H locs ls hl hh => lv_dup C.1 C.2.1 dX11_init_64 rfl hh) ?_
  refine cq_call (b := 16) (sz := 5) (mc := 4) (ms := 183) (As := []) (rmg := rq_X5_init) C (c_X5_init l D cy o 16 (⟨by decide, by decide⟩ : ct_K 5 16) _ (va_up_self _ _ _)) dX11_init_65 ki_X11_39 (by decide) rfl rfl (Nat.le_of_ble_eq_true rfl) ⟨rfl, rfl, Nat.le_of_ble_eq_true rfl, Nat.le_of_ble_eq_true rfl⟩ ⟨Nat.le_of_ble_eq_true rfl, Nat.le_of_ble_eq_true rfl⟩ ?_
  refine cq_conv (va_up (va_up (va_up (cq_fin cy o 0 f) 0 (.inr (11, [.ref (o + 1), .ref (o + 5), .null, .null, .ref (o + 6), .ref (o + 7), .null, .ref (o + 8), .null]))) 5 (.inl (cy 18, 3, .inr (.inr (.inr (.inr (cq_g 1 (fun i => some (o + (5 + 6 + 5 * i)))))))))) 6 (.inl (cy 20, 2, .inr (.inr (.inr (.inr (cq_g 0 (fun i => some (o + (ct_elW 6 i)))))))))) (fun k _ => cq_back (cq_ab_up (by decide) (cq_ab_up (by decide) (cq_ab_up (by decide) (cq_ab_fin (by decide))))) k) ?_
  refine cq_num (N' := 21) (kc' := 20) (ks' := 468) rfl rfl rfl ?_
  refine cq_aast (t0 := 5) (r := (RX5, TX5, 6)) (b := 16) C dX11_init_68 (cq_g 1 (fun i => some (o + (5 + 6 + 5 * i)))) (by decide) (by decide) (by rw [va_up_ne _ _ (by decide), va_up_self]) rfl (by decide) (by rw [va_up_ne _ _ (by decide), va_up_ne _ _ (by decide), va_up_ne _ _ (by decide)]; unfold cq_fin; rw [if_neg (by decide), ct_E5 (⟨by decide, by decide⟩ : ct_K 5 16)] <;> rfl) rfl (by unfold vp_in; decide) ?_
  have hg3 : va_up (cq_g 1 (fun i => some (o + (5 + 6 + 5 * i)))) (1 : Int32).toNatClampNeg (some (o + 16)) = cq_g 2 (fun i => some (o + (5 + 6 + 5 * i))) := by
      have h2 : (fun i => some (o + (5 + 6 + 5 * i))) 1 = some (o + 16) := rfl
      rw [← h2]; exact cq_g1 1 _
  rw [hg3]
  refine cq_conv (va_up (va_up (va_up (cq_fin cy o 0 f) 0 (.inr (11, [.ref (o + 1), .ref (o + 5), .null, .null, .ref (o + 6), .ref (o + 7), .null, .ref (o + 8), .null]))) 5 (.inl (cy 18, 3, .inr (.inr (.inr (.inr (cq_g 2 (fun i => some (o + (5 + 6 + 5 * i)))))))))) 6 (.inl (cy 20, 2, .inr (.inr (.inr (.inr (cq_g 0 (fun i => some (o + (ct_elW 6 i)))))))))) (fun k _ => by simp only [va_up] <;> (repeat' split) <;> first | rfl | (exfalso; omega)) ?_
  refine cq_store (lv' := [(1, .int (2 : Int32)), (0, .ref (o + 0))]) (fun H locs ls hl hh => lv_iinc (k := 0) (v := (2 : Int32)) C.1 C.2.1 dX11_init_69 hl rfl (by decide) (by decide) rfl hh) ?_
  refine cq_w (fun H locs ls hl hh => lv_goto (tgt := 51) C.1 C.2.1 dX11_init_72 (by decide) hh) ?_
  refine cq_w (fun H locs ls hl hh => lv_iload_n C.1 C.2.1 dX11_init_51 rfl (lv_at hl 0 rfl) hh) ?_
  refine cq_w (fun H locs ls hl hh => lv_iconst (v := (3 : Int32)) C.1 C.2.1 dX11_init_52 (by decide) hh) ?_
  refine cq_w (fun H locs ls hl hh => lv_icmp_ge (tgt := 75) C.1 C.2.1 dX11_init_53 (by decide) (fun hc => absurd hc (by decide)) (fun _ => hh)) ?_
  refine cq_w (fun H locs ls hl hh => lv_aload_n C.1 C.2.1 dX11_init_56 rfl (lv_at hl 1 rfl) hh) ?_
  refine cq_get1 (ci := 11) (v := .ref (o + 5)) C dX11_init_57 [.ref (o + 1), .ref (o + 5), .null, .null, .ref (o + 6), .ref (o + 7), .null, .ref (o + 8), .null] (by decide) (by rw [va_up_ne _ _ (by decide), va_up_ne _ _ (by decide), va_up_self]) rfl ct_inX11 (k := 1) (by decide) rfl mv_98 rfl ?_
  refine cq_w (fun H locs ls hl hh => lv_iload_n C.1 C.2.1 dX11_init_60 rfl (lv_at hl 0 rfl) hh) ?_
  refine cq_new (ci := 5) C dX11_init_61 [.null, .null, .null, .int 0, .null, .int 0] tyX5 tyX5_ok ct_inX5 mv_97 mv_109 mv_110 rfl (by decide +kernel) hlo (Nat.le_of_ble_eq_true rfl) (Nat.le_of_ble_eq_true rfl) ?_
  refine cq_w (fun H locs ls hl hh => lv_dup C.1 C.2.1 dX11_init_64 rfl hh) ?_
  refine cq_call (b := 21) (sz := 5) (mc := 4) (ms := 183) (As := []) (rmg := rq_X5_init) C (c_X5_init l D cy o 21 (⟨by decide, by decide⟩ : ct_K 5 21) _ (va_up_self _ _ _)) dX11_init_65 ki_X11_39 (by decide) rfl rfl (Nat.le_of_ble_eq_true rfl) ⟨rfl, rfl, Nat.le_of_ble_eq_true rfl, Nat.le_of_ble_eq_true rfl⟩ ⟨Nat.le_of_ble_eq_true rfl, Nat.le_of_ble_eq_true rfl⟩ ?_
  refine cq_conv (va_up (va_up (va_up (cq_fin cy o 0 f) 0 (.inr (11, [.ref (o + 1), .ref (o + 5), .null, .null, .ref (o + 6), .ref (o + 7), .null, .ref (o + 8), .null]))) 5 (.inl (cy 18, 3, .inr (.inr (.inr (.inr (cq_g 2 (fun i => some (o + (5 + 6 + 5 * i)))))))))) 6 (.inl (cy 20, 2, .inr (.inr (.inr (.inr (cq_g 0 (fun i => some (o + (ct_elW 6 i)))))))))) (fun k _ => cq_back (cq_ab_up (by decide) (cq_ab_up (by decide) (cq_ab_up (by decide) (cq_ab_fin (by decide))))) k) ?_
  refine cq_num (N' := 26) (kc' := 25) (ks' := 657) rfl rfl rfl ?_
  refine cq_aast (t0 := 5) (r := (RX5, TX5, 6)) (b := 21) C dX11_init_68 (cq_g 2 (fun i => some (o + (5 + 6 + 5 * i)))) (by decide) (by decide) (by rw [va_up_ne _ _ (by decide), va_up_self]) rfl (by decide) (by rw [va_up_ne _ _ (by decide), va_up_ne _ _ (by decide), va_up_ne _ _ (by decide)]; unfold cq_fin; rw [if_neg (by decide), ct_E5 (⟨by decide, by decide⟩ : ct_K 5 21)] <;> rfl) rfl (by unfold vp_in; decide) ?_
  have hg4 : va_up (cq_g 2 (fun i => some (o + (5 + 6 + 5 * i)))) (2 : Int32).toNatClampNeg (some (o + 21)) = cq_g 3 (fun i => some (o + (5 + 6 + 5 * i))) := by
      have h2 : (fun i => some (o + (5 + 6 + 5 * i))) 2 = some (o + 21) := rfl
      rw [← h2]; exact cq_g1 2 _
  rw [hg4]
  refine cq_conv (va_up (va_up (va_up (cq_fin cy o 0 f) 0 (.inr (11, [.ref (o + 1), .ref (o + 5), .null, .null, .ref (o + 6), .ref (o + 7), .null, .ref (o + 8), .null]))) 5 (.inl (cy 18, 3, .inr (.inr (.inr (.inr (cq_g 3 (fun i => some (o + (5 + 6 + 5 * i)))))))))) 6 (.inl (cy 20, 2, .inr (.inr (.inr (.inr (cq_g 0 (fun i => some (o + (ct_elW 6 i)))))))))) (fun k _ => by simp only [va_up] <;> (repeat' split) <;> first | rfl | (exfalso; omega)) ?_
  refine cq_conv (va_up (va_up (va_up (cq_fin cy o 0 f) 0 (.inr (11, [.ref (o + 1), .ref (o + 5), .null, .null, .ref (o + 6), .ref (o + 7), .null, .ref (o + 8), .null]))) 6 (.inl (cy 20, 2, .inr (.inr (.inr (.inr (cq_g 0 (fun i => some (o + (ct_elW 6 i)))))))))) 5 (.inl (cy 18, 3, .inr (.inr (.inr (.inr (cq_g 3 (fun i => some (o + (5 + 6 + 5 * i)))))))))) (fun k _ => by simp only [va_up] <;> (repeat' split) <;> first | rfl | (exfalso; omega)) ?_
  refine cq_convA (fun i => some (o + (5 + 6 + 5 * i))) (fun i hi => cq_gn _ hi) ?_
  refine cq_conv (va_up (va_up (cq_fin cy o 0 f) 0 (.inr (11, [.ref (o + 1), .ref (o + 5), .null, .null, .ref (o + 6), .ref (o + 7), .null, .ref (o + 8), .null]))) 6 (.inl (cy 20, 2, .inr (.inr (.inr (.inr (cq_g 0 (fun i => some (o + (ct_elW 6 i)))))))))) (fun k _ => cq_keep (by rw [va_up_ne _ _ (by decide), va_up_ne _ _ (by decide)]; unfold cq_fin; rw [if_neg (by decide), ct_E18 (⟨by decide, by decide⟩ : ct_K 18 5)] <;> rfl) k) ?_
  refine cq_store (lv' := [(1, .int (3 : Int32)), (0, .ref (o + 0))]) (fun H locs ls hl hh => lv_iinc (k := 0) (v := (3 : Int32)) C.1 C.2.1 dX11_init_69 hl rfl (by decide) (by decide) rfl hh) ?_
  refine cq_w (fun H locs ls hl hh => lv_goto (tgt := 51) C.1 C.2.1 dX11_init_72 (by decide) hh) ?_
  refine cq_w (fun H locs ls hl hh => lv_iload_n C.1 C.2.1 dX11_init_51 rfl (lv_at hl 0 rfl) hh) ?_
  refine cq_w (fun H locs ls hl hh => lv_iconst (v := (3 : Int32)) C.1 C.2.1 dX11_init_52 (by decide) hh) ?_
  refine cq_w (fun H locs ls hl hh => lv_icmp_ge (tgt := 75) C.1 C.2.1 dX11_init_53 (by decide) (fun _ => hh) (fun hc => absurd (by decide) hc)) ?_
  refine cq_w (fun H locs ls hl hh => lv_aload_n C.1 C.2.1 dX11_init_75 rfl (lv_at hl 1 rfl) hh) ?_
  refine cq_new (ci := 10) C dX11_init_76 [.null, .null, .null, .int 0, .null, .null, .null, .int 0] tyX10 tyX10_ok ct_inX10 mv_99 mv_62 mv_63 rfl (by decide +kernel) hlo (Nat.le_of_ble_eq_true rfl) (Nat.le_of_ble_eq_true rfl) ?_
  refine cq_w (fun H locs ls hl hh => lv_dup C.1 C.2.1 dX11_init_79 rfl hh) ?_
  refine cq_w (fun H locs ls hl hh => lv_aload_n C.1 C.2.1 dX11_init_80 rfl (lv_at hl 1 rfl) hh) ?_
  refine cq_get1 (ci := 11) (v := .ref (o + 5)) C dX11_init_81 [.ref (o + 1), .ref (o + 5), .null, .null, .ref (o + 6), .ref (o + 7), .null, .ref (o + 8), .null] (by decide) (by rw [va_up_ne _ _ (by decide), va_up_ne _ _ (by decide), va_up_self]) rfl ct_inX11 (k := 1) (by decide) rfl mv_98 rfl ?_
  have hq5 : (va_up (va_up (va_up (cq_fin cy o 0 f) 0 (.inr (11, [.ref (o + 1), .ref (o + 5), .null, .null, .ref (o + 6), .ref (o + 7), .null, .ref (o + 8), .null]))) 6 (.inl (cy 20, 2, .inr (.inr (.inr (.inr (cq_g 0 (fun i => some (o + (ct_elW 6 i)))))))))) 26 (.inr (10, [.null, .null, .null, .int 0, .null, .null, .null, .int 0]))) 5 = .inl (cy 18, 3, .inr (.inr (.inr (.inr (fun i => some (o + (5 + 6 + 5 * i))))))) := by rw [va_up_ne _ _ (by decide), va_up_ne _ _ (by decide), va_up_ne _ _ (by decide)]; unfold cq_fin; rw [if_neg (by decide), ct_E18 (⟨by decide, by decide⟩ : ct_K 18 5)] <;> rfl
  refine cq_call (b := 26) (sz := 52) (mc := 51) (ms := 231) (As := [.ref (o + 5)]) (rmg := rq_X10_init) C (c_X10_init l D cy o 26 (⟨by decide, by decide⟩ : ct_K 10 26) _ (va_up_self _ _ _) hq5 (by decide)) dX11_init_84 ki_X11_40 (by decide) rfl rfl (Nat.le_of_ble_eq_true rfl) ⟨rfl, rfl, Nat.le_of_ble_eq_true rfl, Nat.le_of_ble_eq_true rfl⟩ ⟨Nat.le_of_ble_eq_true rfl, Nat.le_of_ble_eq_true rfl⟩ ?_
  refine cq_conv (va_up (va_up (cq_fin cy o 0 f) 0 (.inr (11, [.ref (o + 1), .ref (o + 5), .null, .null, .ref (o + 6), .ref (o + 7), .null, .ref (o + 8), .null]))) 6 (.inl (cy 20, 2, .inr (.inr (.inr (.inr (cq_g 0 (fun i => some (o + (ct_elW 6 i)))))))))) (fun k _ => cq_back (cq_ab_up (by decide) (cq_ab_up (by decide) (cq_ab_fin (by decide)))) k) ?_
  refine cq_num (N' := 78) (kc' := 77) (ks' := 896) rfl rfl rfl ?_
  refine cq_putF (ci := 11) C dX11_init_87 [.ref (o + 1), .ref (o + 5), .null, .null, .ref (o + 6), .ref (o + 7), .null, .ref (o + 8), .null] tyX11 tyX11_ok nmX11 (by decide) (by decide) (by rw [va_up_ne _ _ (by decide), va_up_self]) rfl ct_inX11 (k := 2) (by decide) rfl rfl rfl hin rfl mv_114 (by rfl) (by rfl) (Nat.le_of_ble_eq_true rfl) ?_
  refine cq_conv (va_up (va_up (cq_fin cy o 0 f) 0 (.inr (11, [.ref (o + 1), .ref (o + 5), .ref (o + 26), .null, .ref (o + 6), .ref (o + 7), .null, .ref (o + 8), .null]))) 6 (.inl (cy 20, 2, .inr (.inr (.inr (.inr (cq_g 0 (fun i => some (o + (ct_elW 6 i)))))))))) (fun k _ => by simp only [va_up] <;> (repeat' split) <;> first | rfl | (exfalso; omega)) ?_
  refine cq_w (fun H locs ls hl hh => lv_aload_n C.1 C.2.1 dX11_init_90 rfl (lv_at hl 1 rfl) hh) ?_
  refine cq_new (ci := 1) C dX11_init_91 [.null, .int 0, .int 0] tyX1 tyX1_ok ct_inX1 mv_115 mv_116 mv_117 rfl (by decide +kernel) hlo (Nat.le_of_ble_eq_true rfl) (Nat.le_of_ble_eq_true rfl) ?_
  refine cq_w (fun H locs ls hl hh => lv_dup C.1 C.2.1 dX11_init_94 rfl hh) ?_
  refine cq_w (fun H locs ls hl hh => lv_aload_n C.1 C.2.1 dX11_init_95 rfl (lv_at hl 1 rfl) hh) ?_
  refine cq_get1 (ci := 11) (v := .ref (o + 5)) C dX11_init_96 [.ref (o + 1), .ref (o + 5), .ref (o + 26), .null, .ref (o + 6), .ref (o + 7), .null, .ref (o + 8), .null] (by decide) (by rw [va_up_ne _ _ (by decide), va_up_ne _ _ (by decide), va_up_self]) rfl ct_inX11 (k := 1) (by decide) rfl mv_98 rfl ?_
  have hq6 : (va_up (va_up (va_up (cq_fin cy o 0 f) 0 (.inr (11, [.ref (o + 1), .ref (o + 5), .ref (o + 26), .null, .ref (o + 6), .ref (o + 7), .null, .ref (o + 8), .null]))) 6 (.inl (cy 20, 2, .inr (.inr (.inr (.inr (cq_g 0 (fun i => some (o + (ct_elW 6 i)))))))))) 78 (.inr (1, [.null, .int 0, .int 0]))) 5 = .inl (cy 18, 3, .inr (.inr (.inr (.inr (fun i => some (o + (5 + 6 + 5 * i))))))) := by rw [va_up_ne _ _ (by decide), va_up_ne _ _ (by decide), va_up_ne _ _ (by decide)]; unfold cq_fin; rw [if_neg (by decide), ct_E18 (⟨by decide, by decide⟩ : ct_K 18 5)] <;> rfl
  refine cq_call (b := 78) (sz := 730) (mc := 729) (ms := 3360) (As := [.ref (o + 5)]) (rmg := rq_X1_init) C (c_X1_init l D cy o 78 (⟨by decide, by decide⟩ : ct_K 1 78) _ (va_up_self _ _ _) hq6 (by decide)) dX11_init_99 ki_X11_49 (by decide) rfl rfl (Nat.le_of_ble_eq_true rfl) ⟨rfl, rfl, Nat.le_of_ble_eq_true rfl, Nat.le_of_ble_eq_true rfl⟩ ⟨Nat.le_of_ble_eq_true rfl, Nat.le_of_ble_eq_true rfl⟩ ?_
  refine cq_conv (va_up (va_up (cq_fin cy o 0 f) 0 (.inr (11, [.ref (o + 1), .ref (o + 5), .ref (o + 26), .null, .ref (o + 6), .ref (o + 7), .null, .ref (o + 8), .null]))) 6 (.inl (cy 20, 2, .inr (.inr (.inr (.inr (cq_g 0 (fun i => some (o + (ct_elW 6 i)))))))))) (fun k _ => cq_back (cq_ab_up (by decide) (cq_ab_up (by decide) (cq_ab_fin (by decide)))) k) ?_
  refine cq_num (N' := 808) (kc' := 807) (ks' := 4259) rfl rfl rfl ?_
  refine cq_putF (ci := 11) C dX11_init_102 [.ref (o + 1), .ref (o + 5), .ref (o + 26), .null, .ref (o + 6), .ref (o + 7), .null, .ref (o + 8), .null] tyX11 tyX11_ok nmX11 (by decide) (by decide) (by rw [va_up_ne _ _ (by decide), va_up_self]) rfl ct_inX11 (k := 3) (by decide) rfl rfl rfl hin rfl mv_121 (by rfl) (by rfl) (Nat.le_of_ble_eq_true rfl) ?_
  refine cq_conv (va_up (va_up (cq_fin cy o 0 f) 0 (.inr (11, [.ref (o + 1), .ref (o + 5), .ref (o + 26), .ref (o + 78), .ref (o + 6), .ref (o + 7), .null, .ref (o + 8), .null]))) 6 (.inl (cy 20, 2, .inr (.inr (.inr (.inr (cq_g 0 (fun i => some (o + (ct_elW 6 i)))))))))) (fun k _ => by simp only [va_up] <;> (repeat' split) <;> first | rfl | (exfalso; omega)) ?_
  refine cq_w (fun H locs ls hl hh => lv_iconst (v := (0 : Int32)) C.1 C.2.1 dX11_init_105 (by decide) hh) ?_
  refine cq_store (lv' := [(1, .int (0 : Int32)), (0, .ref (o + 0))]) (fun H locs ls hl hh => lv_istore_n C.1 C.2.1 dX11_init_106 rfl hl (by decide) rfl hh) ?_
  refine cq_w (fun H locs ls hl hh => lv_iload_n C.1 C.2.1 dX11_init_107 rfl (lv_at hl 0 rfl) hh) ?_
  refine cq_w (fun H locs ls hl hh => lv_iconst (v := (2 : Int32)) C.1 C.2.1 dX11_init_108 (by decide) hh) ?_
  refine cq_w (fun H locs ls hl hh => lv_icmp_ge (tgt := 135) C.1 C.2.1 dX11_init_109 (by decide) (fun hc => absurd hc (by decide)) (fun _ => hh)) ?_
  refine cq_w (fun H locs ls hl hh => lv_aload_n C.1 C.2.1 dX11_init_112 rfl (lv_at hl 1 rfl) hh) ?_
  refine cq_get1 (ci := 11) (v := .ref (o + 6)) C dX11_init_113 [.ref (o + 1), .ref (o + 5), .ref (o + 26), .ref (o + 78), .ref (o + 6), .ref (o + 7), .null, .ref (o + 8), .null] (by decide) (by rw [va_up_ne _ _ (by decide), va_up_self]) rfl ct_inX11 (k := 4) (by decide) rfl mv_100 rfl ?_
  refine cq_w (fun H locs ls hl hh => lv_iload_n C.1 C.2.1 dX11_init_116 rfl (lv_at hl 0 rfl) hh) ?_
  refine cq_new (ci := 10) C dX11_init_117 [.null, .null, .null, .int 0, .null, .null, .null, .int 0] tyX10 tyX10_ok ct_inX10 mv_99 mv_62 mv_63 rfl (by decide +kernel) hlo (Nat.le_of_ble_eq_true rfl) (Nat.le_of_ble_eq_true rfl) ?_
  refine cq_w (fun H locs ls hl hh => lv_dup C.1 C.2.1 dX11_init_120 rfl hh) ?_
  refine cq_w (fun H locs ls hl hh => lv_aload_n C.1 C.2.1 dX11_init_121 rfl (lv_at hl 1 rfl) hh) ?_
  refine cq_get1 (ci := 11) (v := .ref (o + 5)) C dX11_init_122 [.ref (o + 1), .ref (o + 5), .ref (o + 26), .ref (o + 78), .ref (o + 6), .ref (o + 7), .null, .ref (o + 8), .null] (by decide) (by rw [va_up_ne _ _ (by decide), va_up_ne _ _ (by decide), va_up_self]) rfl ct_inX11 (k := 1) (by decide) rfl mv_98 rfl ?_
  have hq7 : (va_up (va_up (va_up (cq_fin cy o 0 f) 0 (.inr (11, [.ref (o + 1), .ref (o + 5), .ref (o + 26), .ref (o + 78), .ref (o + 6), .ref (o + 7), .null, .ref (o + 8), .null]))) 6 (.inl (cy 20, 2, .inr (.inr (.inr (.inr (cq_g 0 (fun i => some (o + (ct_elW 6 i)))))))))) 808 (.inr (10, [.null, .null, .null, .int 0, .null, .null, .null, .int 0]))) 5 = .inl (cy 18, 3, .inr (.inr (.inr (.inr (fun i => some (o + (5 + 6 + 5 * i))))))) := by rw [va_up_ne _ _ (by decide), va_up_ne _ _ (by decide), va_up_ne _ _ (by decide)]; unfold cq_fin; rw [if_neg (by decide), ct_E18 (⟨by decide, by decide⟩ : ct_K 18 5)] <;> rfl
  refine cq_call (b := 808) (sz := 52) (mc := 51) (ms := 231) (As := [.ref (o + 5)]) (rmg := rq_X10_init) C (c_X10_init l D cy o 808 (⟨by decide, by decide⟩ : ct_K 10 808) _ (va_up_self _ _ _) hq7 (by decide)) dX11_init_125 ki_X11_40 (by decide) rfl rfl (Nat.le_of_ble_eq_true rfl) ⟨rfl, rfl, Nat.le_of_ble_eq_true rfl, Nat.le_of_ble_eq_true rfl⟩ ⟨Nat.le_of_ble_eq_true rfl, Nat.le_of_ble_eq_true rfl⟩ ?_
  refine cq_conv (va_up (va_up (cq_fin cy o 0 f) 0 (.inr (11, [.ref (o + 1), .ref (o + 5), .ref (o + 26), .ref (o + 78), .ref (o + 6), .ref (o + 7), .null, .ref (o + 8), .null]))) 6 (.inl (cy 20, 2, .inr (.inr (.inr (.inr (cq_g 0 (fun i => some (o + (ct_elW 6 i)))))))))) (fun k _ => cq_back (cq_ab_up (by decide) (cq_ab_up (by decide) (cq_ab_fin (by decide)))) k) ?_
  refine cq_num (N' := 860) (kc' := 859) (ks' := 4498) rfl rfl rfl ?_
  refine cq_aast (t0 := 7) (r := (RX10, TX10, 8)) (b := 808) C dX11_init_128 (cq_g 0 (fun i => some (o + (ct_elW 6 i)))) (by decide) (by decide) (by rw [va_up_self]) rfl (by decide) (by rw [va_up_ne _ _ (by decide), va_up_ne _ _ (by decide)]; unfold cq_fin; rw [if_neg (by decide), ct_E10 (⟨by decide, by decide⟩ : ct_K 10 808)] <;> rfl) rfl (by unfold vp_in; decide) ?_
  have hg8 : va_up (cq_g 0 (fun i => some (o + (ct_elW 6 i)))) (0 : Int32).toNatClampNeg (some (o + 808)) = cq_g 1 (fun i => some (o + (ct_elW 6 i))) := by
      have h2 : (fun i => some (o + (ct_elW 6 i))) 0 = some (o + 808) := rfl
      rw [← h2]; exact cq_g1 0 _
  rw [hg8]
  refine cq_conv (va_up (va_up (cq_fin cy o 0 f) 0 (.inr (11, [.ref (o + 1), .ref (o + 5), .ref (o + 26), .ref (o + 78), .ref (o + 6), .ref (o + 7), .null, .ref (o + 8), .null]))) 6 (.inl (cy 20, 2, .inr (.inr (.inr (.inr (cq_g 1 (fun i => some (o + (ct_elW 6 i)))))))))) (fun k _ => by simp only [va_up] <;> (repeat' split) <;> first | rfl | (exfalso; omega)) ?_
  refine cq_store (lv' := [(1, .int (1 : Int32)), (0, .ref (o + 0))]) (fun H locs ls hl hh => lv_iinc (k := 0) (v := (1 : Int32)) C.1 C.2.1 dX11_init_129 hl rfl (by decide) (by decide) rfl hh) ?_
  refine cq_w (fun H locs ls hl hh => lv_goto (tgt := 107) C.1 C.2.1 dX11_init_132 (by decide) hh) ?_
  refine cq_w (fun H locs ls hl hh => lv_iload_n C.1 C.2.1 dX11_init_107 rfl (lv_at hl 0 rfl) hh) ?_
  refine cq_w (fun H locs ls hl hh => lv_iconst (v := (2 : Int32)) C.1 C.2.1 dX11_init_108 (by decide) hh) ?_
  refine cq_w (fun H locs ls hl hh => lv_icmp_ge (tgt := 135) C.1 C.2.1 dX11_init_109 (by decide) (fun hc => absurd hc (by decide)) (fun _ => hh)) ?_
  refine cq_w (fun H locs ls hl hh => lv_aload_n C.1 C.2.1 dX11_init_112 rfl (lv_at hl 1 rfl) hh) ?_
  refine cq_get1 (ci := 11) (v := .ref (o + 6)) C dX11_init_113 [.ref (o + 1), .ref (o + 5), .ref (o + 26), .ref (o + 78), .ref (o + 6), .ref (o + 7), .null, .ref (o + 8), .null] (by decide) (by rw [va_up_ne _ _ (by decide), va_up_self]) rfl ct_inX11 (k := 4) (by decide) rfl mv_100 rfl ?_
  refine cq_w (fun H locs ls hl hh => lv_iload_n C.1 C.2.1 dX11_init_116 rfl (lv_at hl 0 rfl) hh) ?_
  refine cq_new (ci := 10) C dX11_init_117 [.null, .null, .null, .int 0, .null, .null, .null, .int 0] tyX10 tyX10_ok ct_inX10 mv_99 mv_62 mv_63 rfl (by decide +kernel) hlo (Nat.le_of_ble_eq_true rfl) (Nat.le_of_ble_eq_true rfl) ?_
  refine cq_w (fun H locs ls hl hh => lv_dup C.1 C.2.1 dX11_init_120 rfl hh) ?_
  refine cq_w (fun H locs ls hl hh => lv_aload_n C.1 C.2.1 dX11_init_121 rfl (lv_at hl 1 rfl) hh) ?_
  refine cq_get1 (ci := 11) (v := .ref (o + 5)) C dX11_init_122 [.ref (o + 1), .ref (o + 5), .ref (o + 26), .ref (o + 78), .ref (o + 6), .ref (o + 7), .null, .ref (o + 8), .null] (by decide) (by rw [va_up_ne _ _ (by decide), va_up_ne _ _ (by decide), va_up_self]) rfl ct_inX11 (k := 1) (by decide) rfl mv_98 rfl ?_
  have hq9 : (va_up (va_up (va_up (cq_fin cy o 0 f) 0 (.inr (11, [.ref (o + 1), .ref (o + 5), .ref (o + 26), .ref (o + 78), .ref (o + 6), .ref (o + 7), .null, .ref (o + 8), .null]))) 6 (.inl (cy 20, 2, .inr (.inr (.inr (.inr (cq_g 1 (fun i => some (o + (ct_elW 6 i)))))))))) 860 (.inr (10, [.null, .null, .null, .int 0, .null, .null, .null, .int 0]))) 5 = .inl (cy 18, 3, .inr (.inr (.inr (.inr (fun i => some (o + (5 + 6 + 5 * i))))))) := by rw [va_up_ne _ _ (by decide), va_up_ne _ _ (by decide), va_up_ne _ _ (by decide)]; unfold cq_fin; rw [if_neg (by decide), ct_E18 (⟨by decide, by decide⟩ : ct_K 18 5)] <;> rfl
  refine cq_call (b := 860) (sz := 52) (mc := 51) (ms := 231) (As := [.ref (o + 5)]) (rmg := rq_X10_init) C (c_X10_init l D cy o 860 (⟨by decide, by decide⟩ : ct_K 10 860) _ (va_up_self _ _ _) hq9 (by decide)) dX11_init_125 ki_X11_40 (by decide) rfl rfl (Nat.le_of_ble_eq_true rfl) ⟨rfl, rfl, Nat.le_of_ble_eq_true rfl, Nat.le_of_ble_eq_true rfl⟩ ⟨Nat.le_of_ble_eq_true rfl, Nat.le_of_ble_eq_true rfl⟩ ?_
  refine cq_conv (va_up (va_up (cq_fin cy o 0 f) 0 (.inr (11, [.ref (o + 1), .ref (o + 5), .ref (o + 26), .ref (o + 78), .ref (o + 6), .ref (o + 7), .null, .ref (o + 8), .null]))) 6 (.inl (cy 20, 2, .inr (.inr (.inr (.inr (cq_g 1 (fun i => some (o + (ct_elW 6 i)))))))))) (fun k _ => cq_back (cq_ab_up (by decide) (cq_ab_up (by decide) (cq_ab_fin (by decide)))) k) ?_
  refine cq_num (N' := 912) (kc' := 911) (ks' := 4737) rfl rfl rfl ?_
  refine cq_aast (t0 := 7) (r := (RX10, TX10, 8)) (b := 860) C dX11_init_128 (cq_g 1 (fun i => some (o + (ct_elW 6 i)))) (by decide) (by decide) (by rw [va_up_self]) rfl (by decide) (by rw [va_up_ne _ _ (by decide), va_up_ne _ _ (by decide)]; unfold cq_fin; rw [if_neg (by decide), ct_E10 (⟨by decide, by decide⟩ : ct_K 10 860)] <;> rfl) rfl (by unfold vp_in; decide) ?_
  have hg10 : va_up (cq_g 1 (fun i => some (o + (ct_elW 6 i)))) (1 : Int32).toNatClampNeg (some (o + 860)) = cq_g 2 (fun i => some (o + (ct_elW 6 i))) := by
      have h2 : (fun i => some (o + (ct_elW 6 i))) 1 = some (o + 860) := rfl
      rw [← h2]; exact cq_g1 1 _
  rw [hg10]
  refine cq_conv (va_up (va_up (cq_fin cy o 0 f) 0 (.inr (11, [.ref (o + 1), .ref (o + 5), .ref (o + 26), .ref (o + 78), .ref (o + 6), .ref (o + 7), .null, .ref (o + 8), .null]))) 6 (.inl (cy 20, 2, .inr (.inr (.inr (.inr (cq_g 2 (fun i => some (o + (ct_elW 6 i)))))))))) (fun k _ => by simp only [va_up] <;> (repeat' split) <;> first | rfl | (exfalso; omega)) ?_
  refine cq_conv (va_up (va_up (cq_fin cy o 0 f) 0 (.inr (11, [.ref (o + 1), .ref (o + 5), .ref (o + 26), .ref (o + 78), .ref (o + 6), .ref (o + 7), .null, .ref (o + 8), .null]))) 6 (.inl (cy 20, 2, .inr (.inr (.inr (.inr (cq_g 2 (fun i => some (o + (ct_elW 6 i)))))))))) (fun k _ => by simp only [va_up] <;> (repeat' split) <;> first | rfl | (exfalso; omega)) ?_
  refine cq_convA (fun i => some (o + (ct_elW 6 i))) (fun i hi => cq_gn _ hi) ?_
  refine cq_conv (va_up (cq_fin cy o 0 f) 0 (.inr (11, [.ref (o + 1), .ref (o + 5), .ref (o + 26), .ref (o + 78), .ref (o + 6), .ref (o + 7), .null, .ref (o + 8), .null]))) (fun k _ => cq_keep (by rw [va_up_ne _ _ (by decide)]; unfold cq_fin; rw [if_neg (by decide), ct_E20 (⟨by decide, by decide⟩ : ct_K 20 6)] <;> rfl) k) ?_
  refine cq_store (lv' := [(1, .int (2 : Int32)), (0, .ref (o + 0))]) (fun H locs ls hl hh => lv_iinc (k := 0) (v := (2 : Int32)) C.1 C.2.1 dX11_init_129 hl rfl (by decide) (by decide) rfl hh) ?_
  refine cq_w (fun H locs ls hl hh => lv_goto (tgt := 107) C.1 C.2.1 dX11_init_132 (by decide) hh) ?_
  refine cq_w (fun H locs ls hl hh => lv_iload_n C.1 C.2.1 dX11_init_107 rfl (lv_at hl 0 rfl) hh) ?_
  refine cq_w (fun H locs ls hl hh => lv_iconst (v := (2 : Int32)) C.1 C.2.1 dX11_init_108 (by decide) hh) ?_
  refine cq_w (fun H locs ls hl hh => lv_icmp_ge (tgt := 135) C.1 C.2.1 dX11_init_109 (by decide) (fun _ => hh) (fun hc => absurd (by decide) hc)) ?_
  refine cq_w (fun H locs ls hl hh => lv_aload_n C.1 C.2.1 dX11_init_135 rfl (lv_at hl 1 rfl) hh) ?_
  refine cq_new (ci := 10) C dX11_init_136 [.null, .null, .null, .int 0, .null, .null, .null, .int 0] tyX10 tyX10_ok ct_inX10 mv_99 mv_62 mv_63 rfl (by decide +kernel) hlo (Nat.le_of_ble_eq_true rfl) (Nat.le_of_ble_eq_true rfl) ?_
  refine cq_w (fun H locs ls hl hh => lv_dup C.1 C.2.1 dX11_init_139 rfl hh) ?_
  refine cq_w (fun H locs ls hl hh => lv_aload_n C.1 C.2.1 dX11_init_140 rfl (lv_at hl 1 rfl) hh) ?_
  refine cq_get1 (ci := 11) (v := .ref (o + 5)) C dX11_init_141 [.ref (o + 1), .ref (o + 5), .ref (o + 26), .ref (o + 78), .ref (o + 6), .ref (o + 7), .null, .ref (o + 8), .null] (by decide) (by rw [va_up_ne _ _ (by decide), va_up_self]) rfl ct_inX11 (k := 1) (by decide) rfl mv_98 rfl ?_
  have hq11 : (va_up (va_up (cq_fin cy o 0 f) 0 (.inr (11, [.ref (o + 1), .ref (o + 5), .ref (o + 26), .ref (o + 78), .ref (o + 6), .ref (o + 7), .null, .ref (o + 8), .null]))) 912 (.inr (10, [.null, .null, .null, .int 0, .null, .null, .null, .int 0]))) 5 = .inl (cy 18, 3, .inr (.inr (.inr (.inr (fun i => some (o + (5 + 6 + 5 * i))))))) := by rw [va_up_ne _ _ (by decide), va_up_ne _ _ (by decide)]; unfold cq_fin; rw [if_neg (by decide), ct_E18 (⟨by decide, by decide⟩ : ct_K 18 5)] <;> rfl
  refine cq_call (b := 912) (sz := 52) (mc := 51) (ms := 231) (As := [.ref (o + 5)]) (rmg := rq_X10_init) C (c_X10_init l D cy o 912 (⟨by decide, by decide⟩ : ct_K 10 912) _ (va_up_self _ _ _) hq11 (by decide)) dX11_init_144 ki_X11_40 (by decide) rfl rfl (Nat.le_of_ble_eq_true rfl) ⟨rfl, rfl, Nat.le_of_ble_eq_true rfl, Nat.le_of_ble_eq_true rfl⟩ ⟨Nat.le_of_ble_eq_true rfl, Nat.le_of_ble_eq_true rfl⟩ ?_
  refine cq_conv (va_up (cq_fin cy o 0 f) 0 (.inr (11, [.ref (o + 1), .ref (o + 5), .ref (o + 26), .ref (o + 78), .ref (o + 6), .ref (o + 7), .null, .ref (o + 8), .null]))) (fun k _ => cq_back (cq_ab_up (by decide) (cq_ab_fin (by decide))) k) ?_
  refine cq_num (N' := 964) (kc' := 963) (ks' := 4976) rfl rfl rfl ?_
  refine cq_putF (ci := 11) C dX11_init_147 [.ref (o + 1), .ref (o + 5), .ref (o + 26), .ref (o + 78), .ref (o + 6), .ref (o + 7), .null, .ref (o + 8), .null] tyX11 tyX11_ok nmX11 (by decide) (by decide) (by rw [va_up_self]) rfl ct_inX11 (k := 6) (by decide) rfl rfl rfl hin rfl mv_122 (by rfl) (by rfl) (Nat.le_of_ble_eq_true rfl) ?_
  refine cq_conv (va_up (cq_fin cy o 0 f) 0 (.inr (11, [.ref (o + 1), .ref (o + 5), .ref (o + 26), .ref (o + 78), .ref (o + 6), .ref (o + 7), .ref (o + 912), .ref (o + 8), .null]))) (fun k _ => by simp only [va_up] <;> (repeat' split) <;> first | rfl | (exfalso; omega)) ?_
  refine cq_w (fun H locs ls hl hh => lv_aload_n C.1 C.2.1 dX11_init_150 rfl (lv_at hl 1 rfl) hh) ?_
  refine cq_new (ci := 6) C dX11_init_151 [.null, .null, .null] tyX6 tyX6_ok ct_inX6 mv_123 mv_124 mv_125 rfl (by decide +kernel) hlo (Nat.le_of_ble_eq_true rfl) (Nat.le_of_ble_eq_true rfl) ?_
  refine cq_w (fun H locs ls hl hh => lv_dup C.1 C.2.1 dX11_init_154 rfl hh) ?_
  refine cq_w (fun H locs ls hl hh => lv_aload_n C.1 C.2.1 dX11_init_155 rfl (lv_at hl 1 rfl) hh) ?_
  refine cq_get1 (ci := 11) (v := .ref (o + 5)) C dX11_init_156 [.ref (o + 1), .ref (o + 5), .ref (o + 26), .ref (o + 78), .ref (o + 6), .ref (o + 7), .ref (o + 912), .ref (o + 8), .null] (by decide) (by rw [va_up_ne _ _ (by decide), va_up_self]) rfl ct_inX11 (k := 1) (by decide) rfl mv_98 rfl ?_
  have hq12 : (va_up (va_up (cq_fin cy o 0 f) 0 (.inr (11, [.ref (o + 1), .ref (o + 5), .ref (o + 26), .ref (o + 78), .ref (o + 6), .ref (o + 7), .ref (o + 912), .ref (o + 8), .null]))) 964 (.inr (6, [.null, .null, .null]))) 5 = .inl (cy 18, 3, .inr (.inr (.inr (.inr (fun i => some (o + (5 + 6 + 5 * i))))))) := by rw [va_up_ne _ _ (by decide), va_up_ne _ _ (by decide)]; unfold cq_fin; rw [if_neg (by decide), ct_E18 (⟨by decide, by decide⟩ : ct_K 18 5)] <;> rfl
  refine cq_call (b := 964) (sz := 59) (mc := 58) (ms := 7059) (As := [.ref (o + 5)]) (rmg := rq_X6_init) C (c_X6_init l D cy o 964 (⟨by decide, by decide⟩ : ct_K 6 964) _ (va_up_self _ _ _) hq12 (by decide)) dX11_init_159 ki_X11_59 (by decide) rfl rfl (Nat.le_of_ble_eq_true rfl) ⟨rfl, rfl, Nat.le_of_ble_eq_true rfl, Nat.le_of_ble_eq_true rfl⟩ ⟨Nat.le_of_ble_eq_true rfl, Nat.le_of_ble_eq_true rfl⟩ ?_
  refine cq_conv (va_up (cq_fin cy o 0 f) 0 (.inr (11, [.ref (o + 1), .ref (o + 5), .ref (o + 26), .ref (o + 78), .ref (o + 6), .ref (o + 7), .ref (o + 912), .ref (o + 8), .null]))) (fun k _ => cq_back (cq_ab_up (by decide) (cq_ab_fin (by decide))) k) ?_
  refine cq_num (N' := 1023) (kc' := 1022) (ks' := 12038) rfl rfl rfl ?_
  refine cq_putF (ci := 11) C dX11_init_162 [.ref (o + 1), .ref (o + 5), .ref (o + 26), .ref (o + 78), .ref (o + 6), .ref (o + 7), .ref (o + 912), .ref (o + 8), .null] tyX11 tyX11_ok nmX11 (by decide) (by decide) (by rw [va_up_self]) rfl ct_inX11 (k := 8) (by decide) rfl rfl rfl hin rfl mv_129 (by rfl) (by rfl) (Nat.le_of_ble_eq_true rfl) ?_
  refine cq_conv (va_up (cq_fin cy o 0 f) 0 (.inr (11, [.ref (o + 1), .ref (o + 5), .ref (o + 26), .ref (o + 78), .ref (o + 6), .ref (o + 7), .ref (o + 912), .ref (o + 8), .ref (o + 964)]))) (fun k _ => by simp only [va_up] <;> (repeat' split) <;> first | rfl | (exfalso; omega)) ?_
  refine cq_w (fun H locs ls hl hh => lv_aload_n C.1 C.2.1 dX11_init_165 rfl (lv_at hl 1 rfl) hh) ?_
  refine cq_get1 (ci := 11) (v := .ref (o + 26)) C dX11_init_166 [.ref (o + 1), .ref (o + 5), .ref (o + 26), .ref (o + 78), .ref (o + 6), .ref (o + 7), .ref (o + 912), .ref (o + 8), .ref (o + 964)] (by decide) (by rw [va_up_self]) rfl ct_inX11 (k := 2) (by decide) rfl mv_114 rfl ?_
  refine cq_w (fun H locs ls hl hh => lv_iconst (v := (1 : Int32)) C.1 C.2.1 dX11_init_169 (by decide) hh) ?_
  refine cq_conv (ct_E cy o ct_mz) (fun k hk => by
      by_cases h1 : k = 0
      · rw [h1, va_up_self, ct_E11 (⟨by decide, by decide⟩ : ct_K 11 0)] <;> rfl
      · rw [va_up_ne _ _ h1]; exact if_neg (by omega)) ?_
  refine cq_callM (T := TX10) (As := [.int (1 : Int32)]) C (c_X10_addThread_n l D cy o _ (by rw [ct_E10 (⟨by decide, by decide⟩ : ct_K 10 26)]; rfl) (by rw [ct_E19 (⟨by decide, by decide⟩ : ct_K 19 29)]; rfl) (by rw [ct_E9 (⟨by decide, by decide⟩ : ct_K 9 33)]; rfl) (by rw [ct_E0 (⟨by decide, by decide⟩ : ct_K 0 34)]; rfl) (by rw [ct_E0 (⟨by decide, by decide⟩ : ct_K 0 36)]; rfl)) dX11_init_170 kx_X11_64 (by decide) (ct_E10 (⟨by decide, by decide⟩ : ct_K 10 26)) rfl rfl rfl (Nat.le_of_ble_eq_true rfl) ⟨rfl, rfl, Nat.le_of_ble_eq_true rfl, Nat.le_of_ble_eq_true rfl⟩ ⟨Nat.le_of_ble_eq_true rfl, Nat.le_of_ble_eq_true rfl⟩ ?_
  exact cq_vret2 C hr hlk dX11_init_173 rfl (fun k hk => rfl)
abbrev rq_X12_init : Room := { frames := 1, cells := 23, slots := 12816, locals := 12 }
abbrev cq_f3 (cy : Nat → ClassId) (o : Nat) (f : Nat → va_E) : Nat → va_E := va_up (va_up (cq_fin cy o 1023 f) 1023 (.inr (12, [.int 0, .ref (o + 1024), .int 0, .int 0, .int (1 : Int32), .ref (o + 1025), .ref (o + 1026), .ref (o + 1027), .ref (o + 1028), .ref (o + 1029), .ref (o + 1030), .ref (o + 1031), .ref (o + 1032), .int 0, .ref (o + 1033), .ref (o + 1034), .int 0, .ref (o + 1035), .ref (o + 1036), .int 0, .ref (o + 1037), .ref (o + 1038), .ref (o + 1039), .ref (o + 1040), .ref (o + 1041), .ref (o + 1042), .ref (o + 1043), .ref (o + 1044), .int 0, .int 0, .ref (o + 1045), .int 0, .ref (o + 1046), .int 0]))) 1030 (.inl (cy 14, 172, .inl (upd (fun _ => 0) (72 : Int32).toNatClampNeg (1 : Int32))))
set_option maxHeartbeats 4000000 in
set_option maxRecDepth 100000 in
theorem c_X12_init (l : Launch) (D : va_G) (cy : Nat → ClassId) (o : Nat) (f : Nat → va_E) (hfa : f 1023 = .inr (12, [.int 0, .null, .int 0, .int 0, .int 0, .null, .null, .null, .null, .null, .null, .null, .null, .int 0, .null, .null, .int 0, .null, .null, .int 0, .null, .null, .null, .null, .null, .null, .null, .null, .int 0, .int 0, .null, .int 0, .null, .int 0])) : Met l yX12_init (ct_ws yX12_init cX12_init 1 none) rq_X12_init (va_Pc [.ref (o + 1023)] (cq_P D cy o (1023 + 1) f)) (va_Qv (fun _ : Unit => True) (fun _ t => cq_P D cy o 1047 (cq_f3 cy o f) t) (fun q => o + 1023 ≤ q)) 23 12816 (fun q => o + 1023 ≤ q) := by
  refine cq_met l D cy o 1023 f (by decide) rfl (Nat.le_of_ble_eq_true rfl) (fun p e s mth args below meth c C hr hlk hin hlo => ?_)
  refine cq_sub [0] [(0, .ref (o + 1023))] rfl ?_
  refine cq_w (fun H locs ls hl hh => lv_aload_n C.1 C.2.1 dX12_init_0 rfl (lv_at hl 0 rfl) hh) ?_
  refine cq_obj C mv_134 mv_1 mv_2 dX12_init_1 (Nat.le_of_ble_eq_true rfl) (Nat.le_of_ble_eq_true rfl) ?_
  refine cq_conv (va_up (cq_fin cy o 1023 f) 1023 (.inr (12, [.int 0, .null, .int 0, .int 0, .int 0, .null, .null, .null, .null, .null, .null, .null, .null, .int 0, .null, .null, .int 0, .null, .null, .int 0, .null, .null, .null, .null, .null, .null, .null, .null, .int 0, .int 0, .null, .int 0, .null, .int 0]))) (fun k hk => by
      by_cases h1 : k = 1023
      · rw [h1, va_up_self]; exact hfa
      · rw [va_up_ne _ _ h1]; exact (if_pos (by omega)).symm) ?_
  refine cq_num (N' := 1024) (kc' := 0) (ks' := 0) rfl rfl rfl ?_
  refine cq_w (fun H locs ls hl hh => lv_aload_n C.1 C.2.1 dX12_init_4 rfl (lv_at hl 0 rfl) hh) ?_
  refine cq_w (fun H locs ls hl hh => lv_bipush (v := (60 : Int32)) C.1 C.2.1 dX12_init_5 (by decide) hh) ?_
  have hq1 : ct_E cy o ct_mz 1024 = .inl (cy 14, 60, .inl (fun _ => 0)) := by rw [ct_E14 (⟨by decide, by decide⟩ : ct_K 14 1024)]; rfl
  refine cq_rowI C dX12_init_7 60 (60, .inl (fun _ => 0)) 1 14 .int (cq_ab_up (by decide) (cq_ab_fin (by decide))) hq1 rfl (fun C h => by cases h) mv_3 rfl (fun _ => rfl) (by decide) (by decide) (Nat.le_of_ble_eq_true rfl) (Nat.le_of_ble_eq_true rfl) (Nat.le_of_ble_eq_true rfl) hlo ?_
  refine cq_num (N' := 1025) (kc' := 1) (ks' := 60) rfl rfl rfl ?_
  refine cq_putF (ci := 12) C dX12_init_9 [.int 0, .null, .int 0, .int 0, .int 0, .null, .null, .null, .null, .null, .null, .null, .null, .int 0, .null, .null, .int 0, .null, .null, .int 0, .null, .null, .null, .null, .null, .null, .null, .null, .int 0, .int 0, .null, .int 0, .null, .int 0] tyX12 tyX12_ok nmX12 (by decide) (by decide) (by rw [va_up_self]) rfl ct_inX12 (k := 1) (by decide) rfl rfl rfl hin rfl mv_135 (by rfl) (by rfl) (Nat.le_of_ble_eq_true rfl) ?_
  refine cq_conv (va_up (cq_fin cy o 1023 f) 1023 (.inr (12, [.int 0, .ref (o + 1024), .int 0, .int 0, .int 0, .null, .null, .null, .null, .null, .null, .null, .null, .int 0, .null, .null, .int 0, .null, .null, .int 0, .null, .null, .null, .null, .null, .null, .null, .null, .int 0, .int 0, .null, .int 0, .null, .int 0]))) (fun k _ => by simp only [va_up] <;> (repeat' split) <;> first | rfl | (exfalso; omega)) ?_
  refine cq_w (fun H locs ls hl hh => lv_aload_n C.1 C.2.1 dX12_init_12 rfl (lv_at hl 0 rfl) hh) ?_
  refine cq_w (fun H locs ls hl hh => lv_iconst (v := (1 : Int32)) C.1 C.2.1 dX12_init_13 (by decide) hh) ?_
  refine cq_putI (ci := 12) C dX12_init_14 [.int 0, .ref (o + 1024), .int 0, .int 0, .int 0, .null, .null, .null, .null, .null, .null, .null, .null, .int 0, .null, .null, .int 0, .null, .null, .int 0, .null, .null, .null, .null, .null, .null, .null, .null, .int 0, .int 0, .null, .int 0, .null, .int 0] tyX12 tyX12_ok nmX12 (by decide) (by decide) (by rw [va_up_self]) rfl ct_inX12 (k := 4) (by decide) rfl rfl rfl mv_136 (by rfl) (by rfl) (Nat.le_of_ble_eq_true rfl) ?_
  refine cq_conv (va_up (cq_fin cy o 1023 f) 1023 (.inr (12, [.int 0, .ref (o + 1024), .int 0, .int 0, .int (1 : Int32), .null, .null, .null, .null, .null, .null, .null, .null, .int 0, .null, .null, .int 0, .null, .null, .int 0, .null, .null, .null, .null, .null, .null, .null, .null, .int 0, .int 0, .null, .int 0, .null, .int 0]))) (fun k _ => by simp only [va_up] <;> (repeat' split) <;> first | rfl | (exfalso; omega)) ?_
  refine cq_w (fun H locs ls hl hh => lv_aload_n C.1 C.2.1 dX12_init_17 rfl (lv_at hl 0 rfl) hh) ?_
  refine cq_w (fun H locs ls hl hh => lv_iconst (v := (3 : Int32)) C.1 C.2.1 dX12_init_18 (by decide) hh) ?_
  have hq2 : ct_E cy o ct_mz 1025 = .inl (cy 14, 3, .inl (fun _ => 0)) := by rw [ct_E14 (⟨by decide, by decide⟩ : ct_K 14 1025)]; rfl
  refine cq_rowI C dX12_init_19 3 (3, .inl (fun _ => 0)) 1 14 .int (cq_ab_up (by decide) (cq_ab_fin (by decide))) hq2 rfl (fun C h => by cases h) mv_3 rfl (fun _ => rfl) (by decide) (by decide) (Nat.le_of_ble_eq_true rfl) (Nat.le_of_ble_eq_true rfl) (Nat.le_of_ble_eq_true rfl) hlo ?_
  refine cq_num (N' := 1026) (kc' := 2) (ks' := 63) rfl rfl rfl ?_
  refine cq_putF (ci := 12) C dX12_init_21 [.int 0, .ref (o + 1024), .int 0, .int 0, .int (1 : Int32), .null, .null, .null, .null, .null, .null, .null, .null, .int 0, .null, .null, .int 0, .null, .null, .int 0, .null, .null, .null, .null, .null, .null, .null, .null, .int 0, .int 0, .null, .int 0, .null, .int 0] tyX12 tyX12_ok nmX12 (by decide) (by decide) (by rw [va_up_self]) rfl ct_inX12 (k := 5) (by decide) rfl rfl rfl hin rfl mv_137 (by rfl) (by rfl) (Nat.le_of_ble_eq_true rfl) ?_
  refine cq_conv (va_up (cq_fin cy o 1023 f) 1023 (.inr (12, [.int 0, .ref (o + 1024), .int 0, .int 0, .int (1 : Int32), .ref (o + 1025), .null, .null, .null, .null, .null, .null, .null, .int 0, .null, .null, .int 0, .null, .null, .int 0, .null, .null, .null, .null, .null, .null, .null, .null, .int 0, .int 0, .null, .int 0, .null, .int 0]))) (fun k _ => by simp only [va_up] <;> (repeat' split) <;> first | rfl | (exfalso; omega)) ?_
  refine cq_w (fun H locs ls hl hh => lv_aload_n C.1 C.2.1 dX12_init_24 rfl (lv_at hl 0 rfl) hh) ?_
  refine cq_w (fun H locs ls hl hh => lv_sipush (v := (180 : Int32)) C.1 C.2.1 dX12_init_25 (by decide) hh) ?_
  have hq3 : ct_E cy o ct_mz 1026 = .inl (cy 14, 180, .inl (fun _ => 0)) := by rw [ct_E14 (⟨by decide, by decide⟩ : ct_K 14 1026)]; rfl
  refine cq_rowI C dX12_init_28 180 (180, .inl (fun _ => 0)) 1 14 .int (cq_ab_up (by decide) (cq_ab_fin (by decide))) hq3 rfl (fun C h => by cases h) mv_3 rfl (fun _ => rfl) (by decide) (by decide) (Nat.le_of_ble_eq_true rfl) (Nat.le_of_ble_eq_true rfl) (Nat.le_of_ble_eq_true rfl) hlo ?_
  refine cq_num (N' := 1027) (kc' := 3) (ks' := 243) rfl rfl rfl ?_
  refine cq_putF (ci := 12) C dX12_init_30 [.int 0, .ref (o + 1024), .int 0, .int 0, .int (1 : Int32), .ref (o + 1025), .null, .null, .null, .null, .null, .null, .null, .int 0, .null, .null, .int 0, .null, .null, .int 0, .null, .null, .null, .null, .null, .null, .null, .null, .int 0, .int 0, .null, .int 0, .null, .int 0] tyX12 tyX12_ok nmX12 (by decide) (by decide) (by rw [va_up_self]) rfl ct_inX12 (k := 6) (by decide) rfl rfl rfl hin rfl mv_138 (by rfl) (by rfl) (Nat.le_of_ble_eq_true rfl) ?_
  refine cq_conv (va_up (cq_fin cy o 1023 f) 1023 (.inr (12, [.int 0, .ref (o + 1024), .int 0, .int 0, .int (1 : Int32), .ref (o + 1025), .ref (o + 1026), .null, .null, .null, .null, .null, .null, .int 0, .null, .null, .int 0, .null, .null, .int 0, .null, .null, .null, .null, .null, .null, .null, .null, .int 0, .int 0, .null, .int 0, .null, .int 0]))) (fun k _ => by simp only [va_up] <;> (repeat' split) <;> first | rfl | (exfalso; omega)) ?_
  refine cq_w (fun H locs ls hl hh => lv_aload_n C.1 C.2.1 dX12_init_33 rfl (lv_at hl 0 rfl) hh) ?_
  refine cq_w (fun H locs ls hl hh => lv_sipush (v := (180 : Int32)) C.1 C.2.1 dX12_init_34 (by decide) hh) ?_
  have hq4 : ct_E cy o ct_mz 1027 = .inl (cy 14, 180, .inl (fun _ => 0)) := by rw [ct_E14 (⟨by decide, by decide⟩ : ct_K 14 1027)]; rfl
  refine cq_rowI C dX12_init_37 180 (180, .inl (fun _ => 0)) 1 14 .int (cq_ab_up (by decide) (cq_ab_fin (by decide))) hq4 rfl (fun C h => by cases h) mv_3 rfl (fun _ => rfl) (by decide) (by decide) (Nat.le_of_ble_eq_true rfl) (Nat.le_of_ble_eq_true rfl) (Nat.le_of_ble_eq_true rfl) hlo ?_
  refine cq_num (N' := 1028) (kc' := 4) (ks' := 423) rfl rfl rfl ?_
  refine cq_putF (ci := 12) C dX12_init_39 [.int 0, .ref (o + 1024), .int 0, .int 0, .int (1 : Int32), .ref (o + 1025), .ref (o + 1026), .null, .null, .null, .null, .null, .null, .int 0, .null, .null, .int 0, .null, .null, .int 0, .null, .null, .null, .null, .null, .null, .null, .null, .int 0, .int 0, .null, .int 0, .null, .int 0] tyX12 tyX12_ok nmX12 (by decide) (by decide) (by rw [va_up_self]) rfl ct_inX12 (k := 7) (by decide) rfl rfl rfl hin rfl mv_139 (by rfl) (by rfl) (Nat.le_of_ble_eq_true rfl) ?_
  refine cq_conv (va_up (cq_fin cy o 1023 f) 1023 (.inr (12, [.int 0, .ref (o + 1024), .int 0, .int 0, .int (1 : Int32), .ref (o + 1025), .ref (o + 1026), .ref (o + 1027), .null, .null, .null, .null, .null, .int 0, .null, .null, .int 0, .null, .null, .int 0, .null, .null, .null, .null, .null, .null, .null, .null, .int 0, .int 0, .null, .int 0, .null, .int 0]))) (fun k _ => by simp only [va_up] <;> (repeat' split) <;> first | rfl | (exfalso; omega)) ?_
  refine cq_w (fun H locs ls hl hh => lv_aload_n C.1 C.2.1 dX12_init_42 rfl (lv_at hl 0 rfl) hh) ?_
  refine cq_w (fun H locs ls hl hh => lv_sipush (v := (180 : Int32)) C.1 C.2.1 dX12_init_43 (by decide) hh) ?_
  have hq5 : ct_E cy o ct_mz 1028 = .inl (cy 14, 180, .inl (fun _ => 0)) := by rw [ct_E14 (⟨by decide, by decide⟩ : ct_K 14 1028)]; rfl
  refine cq_rowI C dX12_init_46 180 (180, .inl (fun _ => 0)) 1 14 .int (cq_ab_up (by decide) (cq_ab_fin (by decide))) hq5 rfl (fun C h => by cases h) mv_3 rfl (fun _ => rfl) (by decide) (by decide) (Nat.le_of_ble_eq_true rfl) (Nat.le_of_ble_eq_true rfl) (Nat.le_of_ble_eq_true rfl) hlo ?_
  refine cq_num (N' := 1029) (kc' := 5) (ks' := 603) rfl rfl rfl ?_
  refine cq_putF (ci := 12) C dX12_init_48 [.int 0, .ref (o + 1024), .int 0, .int 0, .int (1 : Int32), .ref (o + 1025), .ref (o + 1026), .ref (o + 1027), .null, .null, .null, .null, .null, .int 0, .null, .null, .int 0, .null, .null, .int 0, .null, .null, .null, .null, .null, .null, .null, .null, .int 0, .int 0, .null, .int 0, .null, .int 0] tyX12 tyX12_ok nmX12 (by decide) (by decide) (by rw [va_up_self]) rfl ct_inX12 (k := 8) (by decide) rfl rfl rfl hin rfl mv_140 (by rfl) (by rfl) (Nat.le_of_ble_eq_true rfl) ?_
  refine cq_conv (va_up (cq_fin cy o 1023 f) 1023 (.inr (12, [.int 0, .ref (o + 1024), .int 0, .int 0, .int (1 : Int32), .ref (o + 1025), .ref (o + 1026), .ref (o + 1027), .ref (o + 1028), .null, .null, .null, .null, .int 0, .null, .null, .int 0, .null, .null, .int 0, .null, .null, .null, .null, .null, .null, .null, .null, .int 0, .int 0, .null, .int 0, .null, .int 0]))) (fun k _ => by simp only [va_up] <;> (repeat' split) <;> first | rfl | (exfalso; omega)) ?_
  refine cq_w (fun H locs ls hl hh => lv_aload_n C.1 C.2.1 dX12_init_51 rfl (lv_at hl 0 rfl) hh) ?_
  refine cq_w (fun H locs ls hl hh => lv_sipush (v := (180 : Int32)) C.1 C.2.1 dX12_init_52 (by decide) hh) ?_
  have hq6 : ct_E cy o ct_mz 1029 = .inl (cy 14, 180, .inl (fun _ => 0)) := by rw [ct_E14 (⟨by decide, by decide⟩ : ct_K 14 1029)]; rfl
  refine cq_rowI C dX12_init_55 180 (180, .inl (fun _ => 0)) 1 14 .int (cq_ab_up (by decide) (cq_ab_fin (by decide))) hq6 rfl (fun C h => by cases h) mv_3 rfl (fun _ => rfl) (by decide) (by decide) (Nat.le_of_ble_eq_true rfl) (Nat.le_of_ble_eq_true rfl) (Nat.le_of_ble_eq_true rfl) hlo ?_
  refine cq_num (N' := 1030) (kc' := 6) (ks' := 783) rfl rfl rfl ?_
  refine cq_putF (ci := 12) C dX12_init_57 [.int 0, .ref (o + 1024), .int 0, .int 0, .int (1 : Int32), .ref (o + 1025), .ref (o + 1026), .ref (o + 1027), .ref (o + 1028), .null, .null, .null, .null, .int 0, .null, .null, .int 0, .null, .null, .int 0, .null, .null, .null, .null, .null, .null, .null, .null, .int 0, .int 0, .null, .int 0, .null, .int 0] tyX12 tyX12_ok nmX12 (by decide) (by decide) (by rw [va_up_self]) rfl ct_inX12 (k := 9) (by decide) rfl rfl rfl hin rfl mv_141 (by rfl) (by rfl) (Nat.le_of_ble_eq_true rfl) ?_
  refine cq_conv (va_up (cq_fin cy o 1023 f) 1023 (.inr (12, [.int 0, .ref (o + 1024), .int 0, .int 0, .int (1 : Int32), .ref (o + 1025), .ref (o + 1026), .ref (o + 1027), .ref (o + 1028), .ref (o + 1029), .null, .null, .null, .int 0, .null, .null, .int 0, .null, .null, .int 0, .null, .null, .null, .null, .null, .null, .null, .null, .int 0, .int 0, .null, .int 0, .null, .int 0]))) (fun k _ => by simp only [va_up] <;> (repeat' split) <;> first | rfl | (exfalso; omega)) ?_
  refine cq_w (fun H locs ls hl hh => lv_aload_n C.1 C.2.1 dX12_init_60 rfl (lv_at hl 0 rfl) hh) ?_
  refine cq_w (fun H locs ls hl hh => lv_sipush (v := (172 : Int32)) C.1 C.2.1 dX12_init_61 (by decide) hh) ?_
  have hq7 : ct_E cy o ct_mz 1030 = .inl (cy 14, 172, .inl (fun _ => 0)) := by rw [ct_E14 (⟨by decide, by decide⟩ : ct_K 14 1030)]; rfl
  refine cq_rowI C dX12_init_64 172 (172, .inl (fun _ => 0)) 1 14 .int (cq_ab_up (by decide) (cq_ab_fin (by decide))) hq7 rfl (fun C h => by cases h) mv_3 rfl (fun _ => rfl) (by decide) (by decide) (Nat.le_of_ble_eq_true rfl) (Nat.le_of_ble_eq_true rfl) (Nat.le_of_ble_eq_true rfl) hlo ?_
  refine cq_num (N' := 1031) (kc' := 7) (ks' := 955) rfl rfl rfl ?_
  refine cq_putF (ci := 12) C dX12_init_66 [.int 0, .ref (o + 1024), .int 0, .int 0, .int (1 : Int32), .ref (o + 1025), .ref (o + 1026), .ref (o + 1027), .ref (o + 1028), .ref (o + 1029), .null, .null, .null, .int 0, .null, .null, .int 0, .null, .null, .int 0, .null, .null, .null, .null, .null, .null, .null, .null, .int 0, .int 0, .null, .int 0, .null, .int 0] tyX12 tyX12_ok nmX12 (by decide) (by decide) (by rw [va_up_self]) rfl ct_inX12 (k := 10) (by decide) rfl rfl rfl hin rfl mv_142 (by rfl) (by rfl) (Nat.le_of_ble_eq_true rfl) ?_
  refine cq_conv (va_up (cq_fin cy o 1023 f) 1023 (.inr (12, [.int 0, .ref (o + 1024), .int 0, .int 0, .int (1 : Int32), .ref (o + 1025), .ref (o + 1026), .ref (o + 1027), .ref (o + 1028), .ref (o + 1029), .ref (o + 1030), .null, .null, .int 0, .null, .null, .int 0, .null, .null, .int 0, .null, .null, .null, .null, .null, .null, .null, .null, .int 0, .int 0, .null, .int 0, .null, .int 0]))) (fun k _ => by simp only [va_up] <;> (repeat' split) <;> first | rfl | (exfalso; omega)) ?_
  refine cq_w (fun H locs ls hl hh => lv_aload_n C.1 C.2.1 dX12_init_69 rfl (lv_at hl 0 rfl) hh) ?_
  refine cq_w (fun H locs ls hl hh => lv_sipush (v := (172 : Int32)) C.1 C.2.1 dX12_init_70 (by decide) hh) ?_
  have hq8 : ct_E cy o ct_mz 1031 = .inl (cy 14, 172, .inl (fun _ => 0)) := by rw [ct_E14 (⟨by decide, by decide⟩ : ct_K 14 1031)]; rfl
  refine cq_rowI C dX12_init_73 172 (172, .inl (fun _ => 0)) 1 14 .int (cq_ab_up (by decide) (cq_ab_fin (by decide))) hq8 rfl (fun C h => by cases h) mv_3 rfl (fun _ => rfl) (by decide) (by decide) (Nat.le_of_ble_eq_true rfl) (Nat.le_of_ble_eq_true rfl) (Nat.le_of_ble_eq_true rfl) hlo ?_
  refine cq_num (N' := 1032) (kc' := 8) (ks' := 1127) rfl rfl rfl ?_
  refine cq_putF (ci := 12) C dX12_init_75 [.int 0, .ref (o + 1024), .int 0, .int 0, .int (1 : Int32), .ref (o + 1025), .ref (o + 1026), .ref (o + 1027), .ref (o + 1028), .ref (o + 1029), .ref (o + 1030), .null, .null, .int 0, .null, .null, .int 0, .null, .null, .int 0, .null, .null, .null, .null, .null, .null, .null, .null, .int 0, .int 0, .null, .int 0, .null, .int 0] tyX12 tyX12_ok nmX12 (by decide) (by decide) (by rw [va_up_self]) rfl ct_inX12 (k := 11) (by decide) rfl rfl rfl hin rfl mv_143 (by rfl) (by rfl) (Nat.le_of_ble_eq_true rfl) ?_
  refine cq_conv (va_up (cq_fin cy o 1023 f) 1023 (.inr (12, [.int 0, .ref (o + 1024), .int 0, .int 0, .int (1 : Int32), .ref (o + 1025), .ref (o + 1026), .ref (o + 1027), .ref (o + 1028), .ref (o + 1029), .ref (o + 1030), .ref (o + 1031), .null, .int 0, .null, .null, .int 0, .null, .null, .int 0, .null, .null, .null, .null, .null, .null, .null, .null, .int 0, .int 0, .null, .int 0, .null, .int 0]))) (fun k _ => by simp only [va_up] <;> (repeat' split) <;> first | rfl | (exfalso; omega)) ?_
  refine cq_w (fun H locs ls hl hh => lv_aload_n C.1 C.2.1 dX12_init_78 rfl (lv_at hl 0 rfl) hh) ?_
  refine cq_w (fun H locs ls hl hh => lv_sipush (v := (2408 : Int32)) C.1 C.2.1 dX12_init_79 (by decide) hh) ?_
  have hq9 : ct_E cy o ct_mz 1032 = .inl (cy 14, 2408, .inl (fun _ => 0)) := by rw [ct_E14 (⟨by decide, by decide⟩ : ct_K 14 1032)]; rfl
  refine cq_rowI C dX12_init_82 2408 (2408, .inl (fun _ => 0)) 1 14 .int (cq_ab_up (by decide) (cq_ab_fin (by decide))) hq9 rfl (fun C h => by cases h) mv_3 rfl (fun _ => rfl) (by decide) (by decide) (Nat.le_of_ble_eq_true rfl) (Nat.le_of_ble_eq_true rfl) (Nat.le_of_ble_eq_true rfl) hlo ?_
  refine cq_num (N' := 1033) (kc' := 9) (ks' := 3535) rfl rfl rfl ?_
  refine cq_putF (ci := 12) C dX12_init_84 [.int 0, .ref (o + 1024), .int 0, .int 0, .int (1 : Int32), .ref (o + 1025), .ref (o + 1026), .ref (o + 1027), .ref (o + 1028), .ref (o + 1029), .ref (o + 1030), .ref (o + 1031), .null, .int 0, .null, .null, .int 0, .null, .null, .int 0, .null, .null, .null, .null, .null, .null, .null, .null, .int 0, .int 0, .null, .int 0, .null, .int 0] tyX12 tyX12_ok nmX12 (by decide) (by decide) (by rw [va_up_self]) rfl ct_inX12 (k := 12) (by decide) rfl rfl rfl hin rfl mv_144 (by rfl) (by rfl) (Nat.le_of_ble_eq_true rfl) ?_
  refine cq_conv (va_up (cq_fin cy o 1023 f) 1023 (.inr (12, [.int 0, .ref (o + 1024), .int 0, .int 0, .int (1 : Int32), .ref (o + 1025), .ref (o + 1026), .ref (o + 1027), .ref (o + 1028), .ref (o + 1029), .ref (o + 1030), .ref (o + 1031), .ref (o + 1032), .int 0, .null, .null, .int 0, .null, .null, .int 0, .null, .null, .null, .null, .null, .null, .null, .null, .int 0, .int 0, .null, .int 0, .null, .int 0]))) (fun k _ => by simp only [va_up] <;> (repeat' split) <;> first | rfl | (exfalso; omega)) ?_
  refine cq_w (fun H locs ls hl hh => lv_aload_n C.1 C.2.1 dX12_init_87 rfl (lv_at hl 0 rfl) hh) ?_
  refine cq_w (fun H locs ls hl hh => lv_sipush (v := (344 : Int32)) C.1 C.2.1 dX12_init_88 (by decide) hh) ?_
  have hq10 : ct_E cy o ct_mz 1033 = .inl (cy 14, 344, .inl (fun _ => 0)) := by rw [ct_E14 (⟨by decide, by decide⟩ : ct_K 14 1033)]; rfl
  refine cq_rowI C dX12_init_91 344 (344, .inl (fun _ => 0)) 1 14 .int (cq_ab_up (by decide) (cq_ab_fin (by decide))) hq10 rfl (fun C h => by cases h) mv_3 rfl (fun _ => rfl) (by decide) (by decide) (Nat.le_of_ble_eq_true rfl) (Nat.le_of_ble_eq_true rfl) (Nat.le_of_ble_eq_true rfl) hlo ?_
  refine cq_num (N' := 1034) (kc' := 10) (ks' := 3879) rfl rfl rfl ?_
  refine cq_putF (ci := 12) C dX12_init_93 [.int 0, .ref (o + 1024), .int 0, .int 0, .int (1 : Int32), .ref (o + 1025), .ref (o + 1026), .ref (o + 1027), .ref (o + 1028), .ref (o + 1029), .ref (o + 1030), .ref (o + 1031), .ref (o + 1032), .int 0, .null, .null, .int 0, .null, .null, .int 0, .null, .null, .null, .null, .null, .null, .null, .null, .int 0, .int 0, .null, .int 0, .null, .int 0] tyX12 tyX12_ok nmX12 (by decide) (by decide) (by rw [va_up_self]) rfl ct_inX12 (k := 14) (by decide) rfl rfl rfl hin rfl mv_145 (by rfl) (by rfl) (Nat.le_of_ble_eq_true rfl) ?_
  refine cq_conv (va_up (cq_fin cy o 1023 f) 1023 (.inr (12, [.int 0, .ref (o + 1024), .int 0, .int 0, .int (1 : Int32), .ref (o + 1025), .ref (o + 1026), .ref (o + 1027), .ref (o + 1028), .ref (o + 1029), .ref (o + 1030), .ref (o + 1031), .ref (o + 1032), .int 0, .ref (o + 1033), .null, .int 0, .null, .null, .int 0, .null, .null, .null, .null, .null, .null, .null, .null, .int 0, .int 0, .null, .int 0, .null, .int 0]))) (fun k _ => by simp only [va_up] <;> (repeat' split) <;> first | rfl | (exfalso; omega)) ?_
  refine cq_w (fun H locs ls hl hh => lv_aload_n C.1 C.2.1 dX12_init_96 rfl (lv_at hl 0 rfl) hh) ?_
  refine cq_w (fun H locs ls hl hh => lv_iconst (v := (2 : Int32)) C.1 C.2.1 dX12_init_97 (by decide) hh) ?_
  have hq11 : ct_E cy o ct_mz 1034 = .inl (cy 16, 2, .inl (fun _ => 0)) := by rw [ct_E16 (⟨by decide, by decide⟩ : ct_K 16 1034)]; rfl
  refine cq_rowI C dX12_init_98 2 (2, .inl (fun _ => 0)) 3 16 .boolean (cq_ab_up (by decide) (cq_ab_fin (by decide))) hq11 rfl (fun C h => by cases h) mv_101 rfl (fun _ => rfl) (by decide) (by decide) (Nat.le_of_ble_eq_true rfl) (Nat.le_of_ble_eq_true rfl) (Nat.le_of_ble_eq_true rfl) hlo ?_
  refine cq_num (N' := 1035) (kc' := 11) (ks' := 3881) rfl rfl rfl ?_
  refine cq_putF (ci := 12) C dX12_init_100 [.int 0, .ref (o + 1024), .int 0, .int 0, .int (1 : Int32), .ref (o + 1025), .ref (o + 1026), .ref (o + 1027), .ref (o + 1028), .ref (o + 1029), .ref (o + 1030), .ref (o + 1031), .ref (o + 1032), .int 0, .ref (o + 1033), .null, .int 0, .null, .null, .int 0, .null, .null, .null, .null, .null, .null, .null, .null, .int 0, .int 0, .null, .int 0, .null, .int 0] tyX12 tyX12_ok nmX12 (by decide) (by decide) (by rw [va_up_self]) rfl ct_inX12 (k := 15) (by decide) rfl rfl rfl hin rfl mv_146 (by rfl) (by rfl) (Nat.le_of_ble_eq_true rfl) ?_
  refine cq_conv (va_up (cq_fin cy o 1023 f) 1023 (.inr (12, [.int 0, .ref (o + 1024), .int 0, .int 0, .int (1 : Int32), .ref (o + 1025), .ref (o + 1026), .ref (o + 1027), .ref (o + 1028), .ref (o + 1029), .ref (o + 1030), .ref (o + 1031), .ref (o + 1032), .int 0, .ref (o + 1033), .ref (o + 1034), .int 0, .null, .null, .int 0, .null, .null, .null, .null, .null, .null, .null, .null, .int 0, .int 0, .null, .int 0, .null, .int 0]))) (fun k _ => by simp only [va_up] <;> (repeat' split) <;> first | rfl | (exfalso; omega)) ?_
  refine cq_w (fun H locs ls hl hh => lv_aload_n C.1 C.2.1 dX12_init_103 rfl (lv_at hl 0 rfl) hh) ?_
  refine cq_w (fun H locs ls hl hh => lv_iconst (v := (4 : Int32)) C.1 C.2.1 dX12_init_104 (by decide) hh) ?_
  have hq12 : ct_E cy o ct_mz 1035 = .inl (cy 14, 4, .inl (fun _ => 0)) := by rw [ct_E14 (⟨by decide, by decide⟩ : ct_K 14 1035)]; rfl
  refine cq_rowI C dX12_init_105 4 (4, .inl (fun _ => 0)) 1 14 .int (cq_ab_up (by decide) (cq_ab_fin (by decide))) hq12 rfl (fun C h => by cases h) mv_3 rfl (fun _ => rfl) (by decide) (by decide) (Nat.le_of_ble_eq_true rfl) (Nat.le_of_ble_eq_true rfl) (Nat.le_of_ble_eq_true rfl) hlo ?_
  refine cq_num (N' := 1036) (kc' := 12) (ks' := 3885) rfl rfl rfl ?_
  refine cq_putF (ci := 12) C dX12_init_107 [.int 0, .ref (o + 1024), .int 0, .int 0, .int (1 : Int32), .ref (o + 1025), .ref (o + 1026), .ref (o + 1027), .ref (o + 1028), .ref (o + 1029), .ref (o + 1030), .ref (o + 1031), .ref (o + 1032), .int 0, .ref (o + 1033), .ref (o + 1034), .int 0, .null, .null, .int 0, .null, .null, .null, .null, .null, .null, .null, .null, .int 0, .int 0, .null, .int 0, .null, .int 0] tyX12 tyX12_ok nmX12 (by decide) (by decide) (by rw [va_up_self]) rfl ct_inX12 (k := 17) (by decide) rfl rfl rfl hin rfl mv_147 (by rfl) (by rfl) (Nat.le_of_ble_eq_true rfl) ?_
  refine cq_conv (va_up (cq_fin cy o 1023 f) 1023 (.inr (12, [.int 0, .ref (o + 1024), .int 0, .int 0, .int (1 : Int32), .ref (o + 1025), .ref (o + 1026), .ref (o + 1027), .ref (o + 1028), .ref (o + 1029), .ref (o + 1030), .ref (o + 1031), .ref (o + 1032), .int 0, .ref (o + 1033), .ref (o + 1034), .int 0, .ref (o + 1035), .null, .int 0, .null, .null, .null, .null, .null, .null, .null, .null, .int 0, .int 0, .null, .int 0, .null, .int 0]))) (fun k _ => by simp only [va_up] <;> (repeat' split) <;> first | rfl | (exfalso; omega)) ?_
  refine cq_w (fun H locs ls hl hh => lv_aload_n C.1 C.2.1 dX12_init_110 rfl (lv_at hl 0 rfl) hh) ?_
  refine cq_w (fun H locs ls hl hh => lv_iconst (v := (4 : Int32)) C.1 C.2.1 dX12_init_111 (by decide) hh) ?_
  have hq13 : ct_E cy o ct_mz 1036 = .inl (cy 14, 4, .inl (fun _ => 0)) := by rw [ct_E14 (⟨by decide, by decide⟩ : ct_K 14 1036)]; rfl
  refine cq_rowI C dX12_init_112 4 (4, .inl (fun _ => 0)) 1 14 .int (cq_ab_up (by decide) (cq_ab_fin (by decide))) hq13 rfl (fun C h => by cases h) mv_3 rfl (fun _ => rfl) (by decide) (by decide) (Nat.le_of_ble_eq_true rfl) (Nat.le_of_ble_eq_true rfl) (Nat.le_of_ble_eq_true rfl) hlo ?_
  refine cq_num (N' := 1037) (kc' := 13) (ks' := 3889) rfl rfl rfl ?_
  refine cq_putF (ci := 12) C dX12_init_114 [.int 0, .ref (o + 1024), .int 0, .int 0, .int (1 : Int32), .ref (o + 1025), .ref (o + 1026), .ref (o + 1027), .ref (o + 1028), .ref (o + 1029), .ref (o + 1030), .ref (o + 1031), .ref (o + 1032), .int 0, .ref (o + 1033), .ref (o + 1034), .int 0, .ref (o + 1035), .null, .int 0, .null, .null, .null, .null, .null, .null, .null, .null, .int 0, .int 0, .null, .int 0, .null, .int 0] tyX12 tyX12_ok nmX12 (by decide) (by decide) (by rw [va_up_self]) rfl ct_inX12 (k := 18) (by decide) rfl rfl rfl hin rfl mv_148 (by rfl) (by rfl) (Nat.le_of_ble_eq_true rfl) ?_
  refine cq_conv (va_up (cq_fin cy o 1023 f) 1023 (.inr (12, [.int 0, .ref (o + 1024), .int 0, .int 0, .int (1 : Int32), .ref (o + 1025), .ref (o + 1026), .ref (o + 1027), .ref (o + 1028), .ref (o + 1029), .ref (o + 1030), .ref (o + 1031), .ref (o + 1032), .int 0, .ref (o + 1033), .ref (o + 1034), .int 0, .ref (o + 1035), .ref (o + 1036), .int 0, .null, .null, .null, .null, .null, .null, .null, .null, .int 0, .int 0, .null, .int 0, .null, .int 0]))) (fun k _ => by simp only [va_up] <;> (repeat' split) <;> first | rfl | (exfalso; omega)) ?_
  refine cq_w (fun H locs ls hl hh => lv_aload_n C.1 C.2.1 dX12_init_117 rfl (lv_at hl 0 rfl) hh) ?_
  refine cq_w (fun H locs ls hl hh => lv_bipush (v := (6 : Int32)) C.1 C.2.1 dX12_init_118 (by decide) hh) ?_
  have hq14 : ct_E cy o ct_mz 1037 = .inl (cy 14, 6, .inl (fun _ => 0)) := by rw [ct_E14 (⟨by decide, by decide⟩ : ct_K 14 1037)]; rfl
  refine cq_rowI C dX12_init_120 6 (6, .inl (fun _ => 0)) 1 14 .int (cq_ab_up (by decide) (cq_ab_fin (by decide))) hq14 rfl (fun C h => by cases h) mv_3 rfl (fun _ => rfl) (by decide) (by decide) (Nat.le_of_ble_eq_true rfl) (Nat.le_of_ble_eq_true rfl) (Nat.le_of_ble_eq_true rfl) hlo ?_
  refine cq_num (N' := 1038) (kc' := 14) (ks' := 3895) rfl rfl rfl ?_
  refine cq_putF (ci := 12) C dX12_init_122 [.int 0, .ref (o + 1024), .int 0, .int 0, .int (1 : Int32), .ref (o + 1025), .ref (o + 1026), .ref (o + 1027), .ref (o + 1028), .ref (o + 1029), .ref (o + 1030), .ref (o + 1031), .ref (o + 1032), .int 0, .ref (o + 1033), .ref (o + 1034), .int 0, .ref (o + 1035), .ref (o + 1036), .int 0, .null, .null, .null, .null, .null, .null, .null, .null, .int 0, .int 0, .null, .int 0, .null, .int 0] tyX12 tyX12_ok nmX12 (by decide) (by decide) (by rw [va_up_self]) rfl ct_inX12 (k := 20) (by decide) rfl rfl rfl hin rfl mv_149 (by rfl) (by rfl) (Nat.le_of_ble_eq_true rfl) ?_
  refine cq_conv (va_up (cq_fin cy o 1023 f) 1023 (.inr (12, [.int 0, .ref (o + 1024), .int 0, .int 0, .int (1 : Int32), .ref (o + 1025), .ref (o + 1026), .ref (o + 1027), .ref (o + 1028), .ref (o + 1029), .ref (o + 1030), .ref (o + 1031), .ref (o + 1032), .int 0, .ref (o + 1033), .ref (o + 1034), .int 0, .ref (o + 1035), .ref (o + 1036), .int 0, .ref (o + 1037), .null, .null, .null, .null, .null, .null, .null, .int 0, .int 0, .null, .int 0, .null, .int 0]))) (fun k _ => by simp only [va_up] <;> (repeat' split) <;> first | rfl | (exfalso; omega)) ?_
  refine cq_w (fun H locs ls hl hh => lv_aload_n C.1 C.2.1 dX12_init_125 rfl (lv_at hl 0 rfl) hh) ?_
  refine cq_w (fun H locs ls hl hh => lv_iconst (v := (3 : Int32)) C.1 C.2.1 dX12_init_126 (by decide) hh) ?_
  have hq15 : ct_E cy o ct_mz 1038 = .inl (cy 14, 3, .inl (fun _ => 0)) := by rw [ct_E14 (⟨by decide, by decide⟩ : ct_K 14 1038)]; rfl
  refine cq_rowI C dX12_init_127 3 (3, .inl (fun _ => 0)) 1 14 .int (cq_ab_up (by decide) (cq_ab_fin (by decide))) hq15 rfl (fun C h => by cases h) mv_3 rfl (fun _ => rfl) (by decide) (by decide) (Nat.le_of_ble_eq_true rfl) (Nat.le_of_ble_eq_true rfl) (Nat.le_of_ble_eq_true rfl) hlo ?_
  refine cq_num (N' := 1039) (kc' := 15) (ks' := 3898) rfl rfl rfl ?_
  refine cq_putF (ci := 12) C dX12_init_129 [.int 0, .ref (o + 1024), .int 0, .int 0, .int (1 : Int32), .ref (o + 1025), .ref (o + 1026), .ref (o + 1027), .ref (o + 1028), .ref (o + 1029), .ref (o + 1030), .ref (o + 1031), .ref (o + 1032), .int 0, .ref (o + 1033), .ref (o + 1034), .int 0, .ref (o + 1035), .ref (o + 1036), .int 0, .ref (o + 1037), .null, .null, .null, .null, .null, .null, .null, .int 0, .int 0, .null, .int 0, .null, .int 0] tyX12 tyX12_ok nmX12 (by decide) (by decide) (by rw [va_up_self]) rfl ct_inX12 (k := 21) (by decide) rfl rfl rfl hin rfl mv_150 (by rfl) (by rfl) (Nat.le_of_ble_eq_true rfl) ?_
  refine cq_conv (va_up (cq_fin cy o 1023 f) 1023 (.inr (12, [.int 0, .ref (o + 1024), .int 0, .int 0, .int (1 : Int32), .ref (o + 1025), .ref (o + 1026), .ref (o + 1027), .ref (o + 1028), .ref (o + 1029), .ref (o + 1030), .ref (o + 1031), .ref (o + 1032), .int 0, .ref (o + 1033), .ref (o + 1034), .int 0, .ref (o + 1035), .ref (o + 1036), .int 0, .ref (o + 1037), .ref (o + 1038), .null, .null, .null, .null, .null, .null, .int 0, .int 0, .null, .int 0, .null, .int 0]))) (fun k _ => by simp only [va_up] <;> (repeat' split) <;> first | rfl | (exfalso; omega)) ?_
  refine cq_w (fun H locs ls hl hh => lv_aload_n C.1 C.2.1 dX12_init_132 rfl (lv_at hl 0 rfl) hh) ?_
  refine cq_w (fun H locs ls hl hh => lv_iconst (v := (3 : Int32)) C.1 C.2.1 dX12_init_133 (by decide) hh) ?_
  have hq16 : ct_E cy o ct_mz 1039 = .inl (cy 14, 3, .inl (fun _ => 0)) := by rw [ct_E14 (⟨by decide, by decide⟩ : ct_K 14 1039)]; rfl
  refine cq_rowI C dX12_init_134 3 (3, .inl (fun _ => 0)) 1 14 .int (cq_ab_up (by decide) (cq_ab_fin (by decide))) hq16 rfl (fun C h => by cases h) mv_3 rfl (fun _ => rfl) (by decide) (by decide) (Nat.le_of_ble_eq_true rfl) (Nat.le_of_ble_eq_true rfl) (Nat.le_of_ble_eq_true rfl) hlo ?_
  refine cq_num (N' := 1040) (kc' := 16) (ks' := 3901) rfl rfl rfl ?_
  refine cq_putF (ci := 12) C dX12_init_136 [.int 0, .ref (o + 1024), .int 0, .int 0, .int (1 : Int32), .ref (o + 1025), .ref (o + 1026), .ref (o + 1027), .ref (o + 1028), .ref (o + 1029), .ref (o + 1030), .ref (o + 1031), .ref (o + 1032), .int 0, .ref (o + 1033), .ref (o + 1034), .int 0, .ref (o + 1035), .ref (o + 1036), .int 0, .ref (o + 1037), .ref (o + 1038), .null, .null, .null, .null, .null, .null, .int 0, .int 0, .null, .int 0, .null, .int 0] tyX12 tyX12_ok nmX12 (by decide) (by decide) (by rw [va_up_self]) rfl ct_inX12 (k := 22) (by decide) rfl rfl rfl hin rfl mv_151 (by rfl) (by rfl) (Nat.le_of_ble_eq_true rfl) ?_
  refine cq_conv (va_up (cq_fin cy o 1023 f) 1023 (.inr (12, [.int 0, .ref (o + 1024), .int 0, .int 0, .int (1 : Int32), .ref (o + 1025), .ref (o + 1026), .ref (o + 1027), .ref (o + 1028), .ref (o + 1029), .ref (o + 1030), .ref (o + 1031), .ref (o + 1032), .int 0, .ref (o + 1033), .ref (o + 1034), .int 0, .ref (o + 1035), .ref (o + 1036), .int 0, .ref (o + 1037), .ref (o + 1038), .ref (o + 1039), .null, .null, .null, .null, .null, .int 0, .int 0, .null, .int 0, .null, .int 0]))) (fun k _ => by simp only [va_up] <;> (repeat' split) <;> first | rfl | (exfalso; omega)) ?_
  refine cq_w (fun H locs ls hl hh => lv_aload_n C.1 C.2.1 dX12_init_139 rfl (lv_at hl 0 rfl) hh) ?_
  refine cq_w (fun H locs ls hl hh => lv_sipush (v := (180 : Int32)) C.1 C.2.1 dX12_init_140 (by decide) hh) ?_
  have hq17 : ct_E cy o ct_mz 1040 = .inl (cy 14, 180, .inl (fun _ => 0)) := by rw [ct_E14 (⟨by decide, by decide⟩ : ct_K 14 1040)]; rfl
  refine cq_rowI C dX12_init_143 180 (180, .inl (fun _ => 0)) 1 14 .int (cq_ab_up (by decide) (cq_ab_fin (by decide))) hq17 rfl (fun C h => by cases h) mv_3 rfl (fun _ => rfl) (by decide) (by decide) (Nat.le_of_ble_eq_true rfl) (Nat.le_of_ble_eq_true rfl) (Nat.le_of_ble_eq_true rfl) hlo ?_
  refine cq_num (N' := 1041) (kc' := 17) (ks' := 4081) rfl rfl rfl ?_
  refine cq_putF (ci := 12) C dX12_init_145 [.int 0, .ref (o + 1024), .int 0, .int 0, .int (1 : Int32), .ref (o + 1025), .ref (o + 1026), .ref (o + 1027), .ref (o + 1028), .ref (o + 1029), .ref (o + 1030), .ref (o + 1031), .ref (o + 1032), .int 0, .ref (o + 1033), .ref (o + 1034), .int 0, .ref (o + 1035), .ref (o + 1036), .int 0, .ref (o + 1037), .ref (o + 1038), .ref (o + 1039), .null, .null, .null, .null, .null, .int 0, .int 0, .null, .int 0, .null, .int 0] tyX12 tyX12_ok nmX12 (by decide) (by decide) (by rw [va_up_self]) rfl ct_inX12 (k := 23) (by decide) rfl rfl rfl hin rfl mv_152 (by rfl) (by rfl) (Nat.le_of_ble_eq_true rfl) ?_
  refine cq_conv (va_up (cq_fin cy o 1023 f) 1023 (.inr (12, [.int 0, .ref (o + 1024), .int 0, .int 0, .int (1 : Int32), .ref (o + 1025), .ref (o + 1026), .ref (o + 1027), .ref (o + 1028), .ref (o + 1029), .ref (o + 1030), .ref (o + 1031), .ref (o + 1032), .int 0, .ref (o + 1033), .ref (o + 1034), .int 0, .ref (o + 1035), .ref (o + 1036), .int 0, .ref (o + 1037), .ref (o + 1038), .ref (o + 1039), .ref (o + 1040), .null, .null, .null, .null, .int 0, .int 0, .null, .int 0, .null, .int 0]))) (fun k _ => by simp only [va_up] <;> (repeat' split) <;> first | rfl | (exfalso; omega)) ?_
  refine cq_w (fun H locs ls hl hh => lv_aload_n C.1 C.2.1 dX12_init_148 rfl (lv_at hl 0 rfl) hh) ?_
  refine cq_w (fun H locs ls hl hh => lv_sipush (v := (180 : Int32)) C.1 C.2.1 dX12_init_149 (by decide) hh) ?_
  have hq18 : ct_E cy o ct_mz 1041 = .inl (cy 14, 180, .inl (fun _ => 0)) := by rw [ct_E14 (⟨by decide, by decide⟩ : ct_K 14 1041)]; rfl
  refine cq_rowI C dX12_init_152 180 (180, .inl (fun _ => 0)) 1 14 .int (cq_ab_up (by decide) (cq_ab_fin (by decide))) hq18 rfl (fun C h => by cases h) mv_3 rfl (fun _ => rfl) (by decide) (by decide) (Nat.le_of_ble_eq_true rfl) (Nat.le_of_ble_eq_true rfl) (Nat.le_of_ble_eq_true rfl) hlo ?_
  refine cq_num (N' := 1042) (kc' := 18) (ks' := 4261) rfl rfl rfl ?_
  refine cq_putF (ci := 12) C dX12_init_154 [.int 0, .ref (o + 1024), .int 0, .int 0, .int (1 : Int32), .ref (o + 1025), .ref (o + 1026), .ref (o + 1027), .ref (o + 1028), .ref (o + 1029), .ref (o + 1030), .ref (o + 1031), .ref (o + 1032), .int 0, .ref (o + 1033), .ref (o + 1034), .int 0, .ref (o + 1035), .ref (o + 1036), .int 0, .ref (o + 1037), .ref (o + 1038), .ref (o + 1039), .ref (o + 1040), .null, .null, .null, .null, .int 0, .int 0, .null, .int 0, .null, .int 0] tyX12 tyX12_ok nmX12 (by decide) (by decide) (by rw [va_up_self]) rfl ct_inX12 (k := 24) (by decide) rfl rfl rfl hin rfl mv_153 (by rfl) (by rfl) (Nat.le_of_ble_eq_true rfl) ?_
  refine cq_conv (va_up (cq_fin cy o 1023 f) 1023 (.inr (12, [.int 0, .ref (o + 1024), .int 0, .int 0, .int (1 : Int32), .ref (o + 1025), .ref (o + 1026), .ref (o + 1027), .ref (o + 1028), .ref (o + 1029), .ref (o + 1030), .ref (o + 1031), .ref (o + 1032), .int 0, .ref (o + 1033), .ref (o + 1034), .int 0, .ref (o + 1035), .ref (o + 1036), .int 0, .ref (o + 1037), .ref (o + 1038), .ref (o + 1039), .ref (o + 1040), .ref (o + 1041), .null, .null, .null, .int 0, .int 0, .null, .int 0, .null, .int 0]))) (fun k _ => by simp only [va_up] <;> (repeat' split) <;> first | rfl | (exfalso; omega)) ?_
  refine cq_w (fun H locs ls hl hh => lv_aload_n C.1 C.2.1 dX12_init_157 rfl (lv_at hl 0 rfl) hh) ?_
  refine cq_w (fun H locs ls hl hh => lv_sipush (v := (180 : Int32)) C.1 C.2.1 dX12_init_158 (by decide) hh) ?_
  have hq19 : ct_E cy o ct_mz 1042 = .inl (cy 14, 180, .inl (fun _ => 0)) := by rw [ct_E14 (⟨by decide, by decide⟩ : ct_K 14 1042)]; rfl
  refine cq_rowI C dX12_init_161 180 (180, .inl (fun _ => 0)) 1 14 .int (cq_ab_up (by decide) (cq_ab_fin (by decide))) hq19 rfl (fun C h => by cases h) mv_3 rfl (fun _ => rfl) (by decide) (by decide) (Nat.le_of_ble_eq_true rfl) (Nat.le_of_ble_eq_true rfl) (Nat.le_of_ble_eq_true rfl) hlo ?_
  refine cq_num (N' := 1043) (kc' := 19) (ks' := 4441) rfl rfl rfl ?_
  refine cq_putF (ci := 12) C dX12_init_163 [.int 0, .ref (o + 1024), .int 0, .int 0, .int (1 : Int32), .ref (o + 1025), .ref (o + 1026), .ref (o + 1027), .ref (o + 1028), .ref (o + 1029), .ref (o + 1030), .ref (o + 1031), .ref (o + 1032), .int 0, .ref (o + 1033), .ref (o + 1034), .int 0, .ref (o + 1035), .ref (o + 1036), .int 0, .ref (o + 1037), .ref (o + 1038), .ref (o + 1039), .ref (o + 1040), .ref (o + 1041), .null, .null, .null, .int 0, .int 0, .null, .int 0, .null, .int 0] tyX12 tyX12_ok nmX12 (by decide) (by decide) (by rw [va_up_self]) rfl ct_inX12 (k := 25) (by decide) rfl rfl rfl hin rfl mv_154 (by rfl) (by rfl) (Nat.le_of_ble_eq_true rfl) ?_
  refine cq_conv (va_up (cq_fin cy o 1023 f) 1023 (.inr (12, [.int 0, .ref (o + 1024), .int 0, .int 0, .int (1 : Int32), .ref (o + 1025), .ref (o + 1026), .ref (o + 1027), .ref (o + 1028), .ref (o + 1029), .ref (o + 1030), .ref (o + 1031), .ref (o + 1032), .int 0, .ref (o + 1033), .ref (o + 1034), .int 0, .ref (o + 1035), .ref (o + 1036), .int 0, .ref (o + 1037), .ref (o + 1038), .ref (o + 1039), .ref (o + 1040), .ref (o + 1041), .ref (o + 1042), .null, .null, .int 0, .int 0, .null, .int 0, .null, .int 0]))) (fun k _ => by simp only [va_up] <;> (repeat' split) <;> first | rfl | (exfalso; omega)) ?_
  refine cq_w (fun H locs ls hl hh => lv_aload_n C.1 C.2.1 dX12_init_166 rfl (lv_at hl 0 rfl) hh) ?_
  refine cq_w (fun H locs ls hl hh => lv_sipush (v := (180 : Int32)) C.1 C.2.1 dX12_init_167 (by decide) hh) ?_
  have hq20 : ct_E cy o ct_mz 1043 = .inl (cy 14, 180, .inl (fun _ => 0)) := by rw [ct_E14 (⟨by decide, by decide⟩ : ct_K 14 1043)]; rfl
  refine cq_rowI C dX12_init_170 180 (180, .inl (fun _ => 0)) 1 14 .int (cq_ab_up (by decide) (cq_ab_fin (by decide))) hq20 rfl (fun C h => by cases h) mv_3 rfl (fun _ => rfl) (by decide) (by decide) (Nat.le_of_ble_eq_true rfl) (Nat.le_of_ble_eq_true rfl) (Nat.le_of_ble_eq_true rfl) hlo ?_
  refine cq_num (N' := 1044) (kc' := 20) (ks' := 4621) rfl rfl rfl ?_
  refine cq_putF (ci := 12) C dX12_init_172 [.int 0, .ref (o + 1024), .int 0, .int 0, .int (1 : Int32), .ref (o + 1025), .ref (o + 1026), .ref (o + 1027), .ref (o + 1028), .ref (o + 1029), .ref (o + 1030), .ref (o + 1031), .ref (o + 1032), .int 0, .ref (o + 1033), .ref (o + 1034), .int 0, .ref (o + 1035), .ref (o + 1036), .int 0, .ref (o + 1037), .ref (o + 1038), .ref (o + 1039), .ref (o + 1040), .ref (o + 1041), .ref (o + 1042), .null, .null, .int 0, .int 0, .null, .int 0, .null, .int 0] tyX12 tyX12_ok nmX12 (by decide) (by decide) (by rw [va_up_self]) rfl ct_inX12 (k := 26) (by decide) rfl rfl rfl hin rfl mv_155 (by rfl) (by rfl) (Nat.le_of_ble_eq_true rfl) ?_
  refine cq_conv (va_up (cq_fin cy o 1023 f) 1023 (.inr (12, [.int 0, .ref (o + 1024), .int 0, .int 0, .int (1 : Int32), .ref (o + 1025), .ref (o + 1026), .ref (o + 1027), .ref (o + 1028), .ref (o + 1029), .ref (o + 1030), .ref (o + 1031), .ref (o + 1032), .int 0, .ref (o + 1033), .ref (o + 1034), .int 0, .ref (o + 1035), .ref (o + 1036), .int 0, .ref (o + 1037), .ref (o + 1038), .ref (o + 1039), .ref (o + 1040), .ref (o + 1041), .ref (o + 1042), .ref (o + 1043), .null, .int 0, .int 0, .null, .int 0, .null, .int 0]))) (fun k _ => by simp only [va_up] <;> (repeat' split) <;> first | rfl | (exfalso; omega)) ?_
  refine cq_w (fun H locs ls hl hh => lv_aload_n C.1 C.2.1 dX12_init_175 rfl (lv_at hl 0 rfl) hh) ?_
  refine cq_w (fun H locs ls hl hh => lv_iconst (v := (3 : Int32)) C.1 C.2.1 dX12_init_176 (by decide) hh) ?_
  have hq21 : ct_E cy o ct_mz 1044 = .inl (cy 14, 3, .inl (fun _ => 0)) := by rw [ct_E14 (⟨by decide, by decide⟩ : ct_K 14 1044)]; rfl
  refine cq_rowI C dX12_init_177 3 (3, .inl (fun _ => 0)) 1 14 .int (cq_ab_up (by decide) (cq_ab_fin (by decide))) hq21 rfl (fun C h => by cases h) mv_3 rfl (fun _ => rfl) (by decide) (by decide) (Nat.le_of_ble_eq_true rfl) (Nat.le_of_ble_eq_true rfl) (Nat.le_of_ble_eq_true rfl) hlo ?_
  refine cq_num (N' := 1045) (kc' := 21) (ks' := 4624) rfl rfl rfl ?_
  refine cq_putF (ci := 12) C dX12_init_179 [.int 0, .ref (o + 1024), .int 0, .int 0, .int (1 : Int32), .ref (o + 1025), .ref (o + 1026), .ref (o + 1027), .ref (o + 1028), .ref (o + 1029), .ref (o + 1030), .ref (o + 1031), .ref (o + 1032), .int 0, .ref (o + 1033), .ref (o + 1034), .int 0, .ref (o + 1035), .ref (o + 1036), .int 0, .ref (o + 1037), .ref (o + 1038), .ref (o + 1039), .ref (o + 1040), .ref (o + 1041), .ref (o + 1042), .ref (o + 1043), .null, .int 0, .int 0, .null, .int 0, .null, .int 0] tyX12 tyX12_ok nmX12 (by decide) (by decide) (by rw [va_up_self]) rfl ct_inX12 (k := 27) (by decide) rfl rfl rfl hin rfl mv_156 (by rfl) (by rfl) (Nat.le_of_ble_eq_true rfl) ?_
  refine cq_conv (va_up (cq_fin cy o 1023 f) 1023 (.inr (12, [.int 0, .ref (o + 1024), .int 0, .int 0, .int (1 : Int32), .ref (o + 1025), .ref (o + 1026), .ref (o + 1027), .ref (o + 1028), .ref (o + 1029), .ref (o + 1030), .ref (o + 1031), .ref (o + 1032), .int 0, .ref (o + 1033), .ref (o + 1034), .int 0, .ref (o + 1035), .ref (o + 1036), .int 0, .ref (o + 1037), .ref (o + 1038), .ref (o + 1039), .ref (o + 1040), .ref (o + 1041), .ref (o + 1042), .ref (o + 1043), .ref (o + 1044), .int 0, .int 0, .null, .int 0, .null, .int 0]))) (fun k _ => by simp only [va_up] <;> (repeat' split) <;> first | rfl | (exfalso; omega)) ?_
  refine cq_w (fun H locs ls hl hh => lv_aload_n C.1 C.2.1 dX12_init_182 rfl (lv_at hl 0 rfl) hh) ?_
  refine cq_w (fun H locs ls hl hh => lv_sipush (v := (4096 : Int32)) C.1 C.2.1 dX12_init_183 (by decide) hh) ?_
  have hq22 : ct_E cy o ct_mz 1045 = .inl (cy 15, 4096, .inr (.inl (fun _ => 0))) := by rw [ct_E15 (⟨by decide, by decide⟩ : ct_K 15 1045)]; rfl
  refine cq_rowI C dX12_init_186 4096 (4096, .inr (.inl (fun _ => 0))) 2 15 .long (cq_ab_up (by decide) (cq_ab_fin (by decide))) hq22 rfl (fun C h => by cases h) mv_37 rfl (fun _ => rfl) (by decide) (by decide) (Nat.le_of_ble_eq_true rfl) (Nat.le_of_ble_eq_true rfl) (Nat.le_of_ble_eq_true rfl) hlo ?_
  refine cq_num (N' := 1046) (kc' := 22) (ks' := 8720) rfl rfl rfl ?_
  refine cq_putF (ci := 12) C dX12_init_188 [.int 0, .ref (o + 1024), .int 0, .int 0, .int (1 : Int32), .ref (o + 1025), .ref (o + 1026), .ref (o + 1027), .ref (o + 1028), .ref (o + 1029), .ref (o + 1030), .ref (o + 1031), .ref (o + 1032), .int 0, .ref (o + 1033), .ref (o + 1034), .int 0, .ref (o + 1035), .ref (o + 1036), .int 0, .ref (o + 1037), .ref (o + 1038), .ref (o + 1039), .ref (o + 1040), .ref (o + 1041), .ref (o + 1042), .ref (o + 1043), .ref (o + 1044), .int 0, .int 0, .null, .int 0, .null, .int 0] tyX12 tyX12_ok nmX12 (by decide) (by decide) (by rw [va_up_self]) rfl ct_inX12 (k := 30) (by decide) rfl rfl rfl hin rfl mv_157 (by rfl) (by rfl) (Nat.le_of_ble_eq_true rfl) ?_
  refine cq_conv (va_up (cq_fin cy o 1023 f) 1023 (.inr (12, [.int 0, .ref (o + 1024), .int 0, .int 0, .int (1 : Int32), .ref (o + 1025), .ref (o + 1026), .ref (o + 1027), .ref (o + 1028), .ref (o + 1029), .ref (o + 1030), .ref (o + 1031), .ref (o + 1032), .int 0, .ref (o + 1033), .ref (o + 1034), .int 0, .ref (o + 1035), .ref (o + 1036), .int 0, .ref (o + 1037), .ref (o + 1038), .ref (o + 1039), .ref (o + 1040), .ref (o + 1041), .ref (o + 1042), .ref (o + 1043), .ref (o + 1044), .int 0, .int 0, .ref (o + 1045), .int 0, .null, .int 0]))) (fun k _ => by simp only [va_up] <;> (repeat' split) <;> first | rfl | (exfalso; omega)) ?_
  refine cq_w (fun H locs ls hl hh => lv_aload_n C.1 C.2.1 dX12_init_191 rfl (lv_at hl 0 rfl) hh) ?_
  refine cq_w (fun H locs ls hl hh => lv_sipush (v := (4096 : Int32)) C.1 C.2.1 dX12_init_192 (by decide) hh) ?_
  have hq23 : ct_E cy o ct_mz 1046 = .inl (cy 15, 4096, .inr (.inl (fun _ => 0))) := by rw [ct_E15 (⟨by decide, by decide⟩ : ct_K 15 1046)]; rfl
  refine cq_rowI C dX12_init_195 4096 (4096, .inr (.inl (fun _ => 0))) 2 15 .long (cq_ab_up (by decide) (cq_ab_fin (by decide))) hq23 rfl (fun C h => by cases h) mv_37 rfl (fun _ => rfl) (by decide) (by decide) (Nat.le_of_ble_eq_true rfl) (Nat.le_of_ble_eq_true rfl) (Nat.le_of_ble_eq_true rfl) hlo ?_
  refine cq_num (N' := 1047) (kc' := 23) (ks' := 12816) rfl rfl rfl ?_
  refine cq_putF (ci := 12) C dX12_init_197 [.int 0, .ref (o + 1024), .int 0, .int 0, .int (1 : Int32), .ref (o + 1025), .ref (o + 1026), .ref (o + 1027), .ref (o + 1028), .ref (o + 1029), .ref (o + 1030), .ref (o + 1031), .ref (o + 1032), .int 0, .ref (o + 1033), .ref (o + 1034), .int 0, .ref (o + 1035), .ref (o + 1036), .int 0, .ref (o + 1037), .ref (o + 1038), .ref (o + 1039), .ref (o + 1040), .ref (o + 1041), .ref (o + 1042), .ref (o + 1043), .ref (o + 1044), .int 0, .int 0, .ref (o + 1045), .int 0, .null, .int 0] tyX12 tyX12_ok nmX12 (by decide) (by decide) (by rw [va_up_self]) rfl ct_inX12 (k := 32) (by decide) rfl rfl rfl hin rfl mv_158 (by rfl) (by rfl) (Nat.le_of_ble_eq_true rfl) ?_
  refine cq_conv (va_up (cq_fin cy o 1023 f) 1023 (.inr (12, [.int 0, .ref (o + 1024), .int 0, .int 0, .int (1 : Int32), .ref (o + 1025), .ref (o + 1026), .ref (o + 1027), .ref (o + 1028), .ref (o + 1029), .ref (o + 1030), .ref (o + 1031), .ref (o + 1032), .int 0, .ref (o + 1033), .ref (o + 1034), .int 0, .ref (o + 1035), .ref (o + 1036), .int 0, .ref (o + 1037), .ref (o + 1038), .ref (o + 1039), .ref (o + 1040), .ref (o + 1041), .ref (o + 1042), .ref (o + 1043), .ref (o + 1044), .int 0, .int 0, .ref (o + 1045), .int 0, .ref (o + 1046), .int 0]))) (fun k _ => by simp only [va_up] <;> (repeat' split) <;> first | rfl | (exfalso; omega)) ?_
  refine cq_w (fun H locs ls hl hh => lv_aload_n C.1 C.2.1 dX12_init_200 rfl (lv_at hl 0 rfl) hh) ?_
  refine cq_get1 (ci := 12) (v := .ref (o + 1030)) C dX12_init_201 [.int 0, .ref (o + 1024), .int 0, .int 0, .int (1 : Int32), .ref (o + 1025), .ref (o + 1026), .ref (o + 1027), .ref (o + 1028), .ref (o + 1029), .ref (o + 1030), .ref (o + 1031), .ref (o + 1032), .int 0, .ref (o + 1033), .ref (o + 1034), .int 0, .ref (o + 1035), .ref (o + 1036), .int 0, .ref (o + 1037), .ref (o + 1038), .ref (o + 1039), .ref (o + 1040), .ref (o + 1041), .ref (o + 1042), .ref (o + 1043), .ref (o + 1044), .int 0, .int 0, .ref (o + 1045), .int 0, .ref (o + 1046), .int 0] (by decide) (by rw [va_up_self]) rfl ct_inX12 (k := 10) (by decide) rfl mv_142 rfl ?_
  refine cq_w (fun H locs ls hl hh => lv_bipush (v := (72 : Int32)) C.1 C.2.1 dX12_init_204 (by decide) hh) ?_
  refine cq_w (fun H locs ls hl hh => lv_iconst (v := (1 : Int32)) C.1 C.2.1 dX12_init_206 (by decide) hh) ?_
  refine cq_iast C dX12_init_207 (fun _ => 0) (by decide) (by decide) (by rw [va_up_ne _ _ (by decide)]; unfold cq_fin; rw [if_neg (by decide), ct_E14 (⟨by decide, by decide⟩ : ct_K 14 1030)] <;> rfl) (by unfold vp_in; decide) ?_
  exact cq_vret2 C hr hlk dX12_init_208 rfl (fun k hk => rfl)
