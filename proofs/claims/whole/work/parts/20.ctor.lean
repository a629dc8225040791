/-! construction: the first N cells from o on hold f; a0: the object under construction, the last of them at the entry -/
def ct_mz : ct_M := (fun _ _ => 0, fun _ _ => 0)
def cq_pw (o N : Nat) (f : Nat → va_E) : va_W := (List.range N).map (fun k => (o + k, f k))
theorem cq_pw_ct (cy : Nat → ClassId) (o N : Nat) (m : ct_M) : ct_pw cy o N m = cq_pw o N (ct_E cy o m) := rfl
theorem cq_len {o N : Nat} {f : Nat → va_E} : (cq_pw o N f).length = N := by simp [cq_pw]
theorem cq_get {o N k : Nat} {f : Nat → va_E} (h : k < N) : (cq_pw o N f)[k]? = some (o + k, f k) := by simp [cq_pw, List.getElem?_map, List.getElem?_range h]
theorem cq_inv {o N k : Nat} {f : Nat → va_E} {q : Nat × va_E} (h : (cq_pw o N f)[k]? = some q) : k < N ∧ q = (o + k, f k) := by
  have hk : k < N := by
    have := (List.getElem?_eq_some_iff.mp h).1
    simpa [cq_pw] using this
  rw [cq_get hk] at h
  exact ⟨hk, (Option.some.inj h).symm⟩
theorem cq_congr {o N : Nat} {f g : Nat → va_E} (h : ∀ k, k < N → f k = g k) : cq_pw o N f = cq_pw o N g := by
  refine List.map_congr_left fun k hk => ?_
  rw [h k (List.mem_range.mp hk)]
theorem cq_push {o N : Nat} {f : Nat → va_E} {e : va_E} : cq_pw o N f ++ [(o + N, e)] = cq_pw o (N + 1) (va_up f N e) := by
  have h1 : cq_pw o N f = cq_pw o N (va_up f N e) := cq_congr fun k hk => (va_up_ne _ _ (Nat.ne_of_lt hk)).symm
  rw [h1]
  simp [cq_pw, List.range_succ, va_up]
theorem cq_set {o N a : Nat} {f : Nat → va_E} {e : va_E} : (cq_pw o N f).set a (o + a, e) = cq_pw o N (va_up f a e) := by
  refine List.ext_getElem? fun k => ?_
  rw [List.getElem?_set]
  by_cases hk : k < N
  · rw [cq_get hk]
    by_cases ha : a = k
    · subst ha
      rw [if_pos rfl, if_pos (by rw [cq_len]; exact hk), cq_get hk, va_up_self]
    · rw [if_neg ha, cq_get hk, va_up_ne _ _ (fun e => ha e.symm)]
  · have h1 : ∀ f : Nat → va_E, (cq_pw o N f)[k]? = none := fun f => List.getElem?_eq_none (by rw [cq_len]; omega)
    rw [h1, h1]
    by_cases ha : a = k
    · subst ha
      rw [if_pos rfl, if_neg (by rw [cq_len]; exact hk)]
    · rw [if_neg ha]
theorem cq_D {o N : Nat} {f : Nat → va_E} : va_D (fun q => o ≤ q) (cq_pw o N f) := by
  refine ⟨fun i j p q hp hq e => ?_, fun k q hq => ?_⟩
  · obtain ⟨-, rfl⟩ := cq_inv hp
    obtain ⟨-, rfl⟩ := cq_inv hq
    simp at e
    omega
  · obtain ⟨-, rfl⟩ := cq_inv hq
    exact Nat.le_add_right _ _
def cq_P (D : va_G) (cy : Nat → ClassId) (o N : Nat) (f : Nat → va_E) (U : State) : Prop := U.heap.size = o + N ∧ va_P D vwCl (cq_pw o N f) U.heap ∧ va_K D vwCl (ct_tys cy) U ∧ ct_NK U
/-- behind the construction of the object a: what was there before it, and from a on what the layout says, all numbers 0 -/
def cq_fin (cy : Nat → ClassId) (o a : Nat) (f : Nat → va_E) (k : Nat) : va_E := if k < a then f k else ct_E cy o ct_mz k
def cq_J (p : Program) (l : Launch) (e : Env) (R : Room) (s : State) (mth : MethodId) (args : Array Value) (below : List Frame) (meth : Method) (c : Code) (nL : Nat) (D : va_G) (o a0 N : Nat) (f : Nat → va_E) (kc ks : Nat) (QQ : State → Prop) (pc : Nat) (lv : List (Nat × Value)) (st : List Value) : Prop :=
  ∀ (H : Heap) (locs : List Loc) (ls : Array Slot), H.size = o + N → va_P D vwCl (cq_pw o N f) H → va_S (fun q => o + a0 ≤ q) s.heap H locs → lv_has ls nL lv → W p l e R s mth args below meth c H locs kc ks QQ (F0 mth pc ls st)
theorem cq_blind (av : List Value) (D : va_G) (cy : Nat → ClassId) (o N : Nat) (f : Nat → va_E) : FrameBlind (va_Pc av (cq_P D cy o N f)) := fun a U g mk q => by
  obtain ⟨q0, qZ, qP, qK, qN⟩ := q
  exact ⟨q0, qZ, qP, va_K.moved (u := U) (U := U.calling g mk a) (Vm.Alike.refl U.vm) qK, ct_NK_same (u := U) rfl qN⟩
theorem cq_pre {av : List Value} {D : va_G} {cy : Nat → ClassId} {o N : Nat} {f : Nat → va_E} {s : State} {H : Heap} (hz : H.size = o + N) (hP : va_P D vwCl (cq_pw o N f) H) (hK : va_K D vwCl (ct_tys cy) s) (hN : ct_NK s) : ∀ U : State, U.heap = H → s.WarmedH U.vm → va_Pc av (cq_P D cy o N f) av.toArray U := fun U hU hW => ⟨rfl, by rw [hU]; exact hz, by rw [hU]; exact hP, va_K.moved hW.alike hK, ct_NK_warm hW hN⟩
abbrev cq_Q (D : va_G) (cy : Nat → ClassId) (o a sz : Nat) (f : Nat → va_E) : Array Value → State → Outcome → State → Prop := va_Qv (fun _ : Unit => True) (fun _ t => cq_P D cy o (a + sz) (cq_fin cy o a f) t) (fun q => o + a ≤ q)
theorem cq_met {y : MethodName} {cc : ByteArray} {nL : Nat} {rm : Room} {av : List Value} {Qc : Array Value → State → Outcome → State → Prop} {mc ms : Nat} (l : Launch) (D : va_G) (cy : Nat → ClassId) (o a : Nat) (f : Nat → va_E) (hy : plainName y.cls = true) (hyn : y.name = "<init>") (hlen : (lg_sl av).length ≤ nL) (body : ∀ (p : Program) (e : Env) (s : State) (mth : MethodId) (args : Array Value) (below : List Frame) (meth : Method) (c : Code), ct_Cx p s mth c cc nL args y.cls D cy → meth.sig.returnType = none → meth.locks = false → meth.name = "<init>" → o + a ≤ s.heap.size → cq_J p l e rm s mth args below meth c nL D o a (a + 1) f 0 0 (MQ below Qc args s mc ms (fun q => o + a ≤ q)) 0 (lv_args 0 av) []) : Met l y (ct_ws y cc nL none) rm (va_Pc av (cq_P D cy o (a + 1) f)) Qc mc ms (fun q => o + a ≤ q) := by
  refine Met.ofW (cc := cc) (maxL := nL) (ret := none) hy rfl ?_
  intro p e s mth args below meth c s₁ B hml hv
  obtain ⟨rfl, hz, hP, hK, hN⟩ := hv
  have hts := atoms_spec (ws := ct_ws y cc nL none) B.pre
  have hC : ct_Cx p s mth c cc nL av.toArray y.cls D cy := ⟨B.exec, B.bytes, hml, findClass_of_methodNamed B.named, fun w hw => hts w (List.mem_cons_of_mem _ hw), hK, hN⟩
  rw [lg_entry_eq]
  exact body p e s mth _ below meth c hC B.returns B.notSynchronized ((name_of_methodNamed B.named B.method).1.trans hyn) (by omega) s.heap [] _ hz hP va_S.rf (lv_entry av hlen)
section CQ
variable {p : Program} {l : Launch} {e : Env} {R : Room} {s : State} {mth : MethodId} {args : Array Value} {below : List Frame} {meth : Method} {c : Code} {cc : ByteArray} {nL : Nat} {own : String} {D : va_G} {cy : Nat → ClassId} {o a0 N kc ks : Nat} {f : Nat → va_E} {QQ : State → Prop} {pc : Nat} {lv : List (Nat × Value)} {st : List Value}
/-- any row over W that leaves heap and locals alone -/
theorem cq_w {pc' : Nat} {st' : List Value} (r : ∀ (H : Heap) (locs : List Loc) (ls : Array Slot), lv_has ls nL lv → W p l e R s mth args below meth c H locs kc ks QQ (F0 mth pc' ls st') → W p l e R s mth args below meth c H locs kc ks QQ (F0 mth pc ls st)) (kk : cq_J p l e R s mth args below meth c nL D o a0 N f kc ks QQ pc' lv st') : cq_J p l e R s mth args below meth c nL D o a0 N f kc ks QQ pc lv st := fun H locs ls hz hP hS hl => r H locs ls hl (kk H locs ls hz hP hS hl)
theorem cq_conv (g : Nat → va_E) (h : ∀ k, k < N → f k = g k) (kk : cq_J p l e R s mth args below meth c nL D o a0 N g kc ks QQ pc lv st) : cq_J p l e R s mth args below meth c nL D o a0 N f kc ks QQ pc lv st := fun H locs ls hz hP hS hl => kk H locs ls hz (by rw [← cq_congr h]; exact hP) hS hl
theorem cq_wide (k n : Nat) (h1 : kc ≤ k) (h2 : ks ≤ n) (kk : cq_J p l e R s mth args below meth c nL D o a0 N f k n QQ pc lv st) : cq_J p l e R s mth args below meth c nL D o a0 N f kc ks QQ pc lv st := fun H locs ls hz hP hS hl => W.widen h1 h2 (kk H locs ls hz hP hS hl)
theorem cq_sub (ks' : List Nat) (lv' : List (Nat × Value)) (hv : lv_pick lv ks' = lv') (kk : cq_J p l e R s mth args below meth c nL D o a0 N f kc ks QQ pc lv' st) : cq_J p l e R s mth args below meth c nL D o a0 N f kc ks QQ pc lv st := fun H locs ls hz hP hS hl => kk H locs ls hz hP hS (lv_sub hl ks' hv)
theorem cq_obj (C : ct_Cx p s mth c cc nL args own D cy) {idx a : Nat} (h1 : Cond.methodLink own idx objectInit ∈ ct_UW) (h2 : Cond.instanceMethod objectInit ∈ ct_UW) (h3 : Cond.code objectInit ⟨#[0xb1]⟩ 1 none ∈ ct_UW) (d : decode cc pc = .ok (.invokespecial idx, 3)) (hf : 1 ≤ R.frames) (hlo : 12 ≤ R.locals) (kk : cq_J p l e R s mth args below meth c nL D o a0 N f kc ks QQ (pc + 3) lv []) : cq_J p l e R s mth args below meth c nL D o a0 N f kc ks QQ pc lv [.ref (o + a)] := fun H locs ls hz hP hS hl => W.objInit C.1 C.2.1 C.2.2.2.1 (C.2.2.2.2.1 _ h1) (C.2.2.2.2.1 _ h2) (C.2.2.2.2.1 _ h3) rfl (by rw [C.2.2.1]; exact hl.1) rfl d hf (by show 2 * 0 + 0 + 12 ≤ R.locals; omega) (W.eq (g2 := F0 mth (pc + 3) ls []) rfl (kk H locs ls hz hP hS hl))
theorem cq_new (C : ct_Cx p s mth c cc nL args own D cy) {index ci n : Nat} {C1 : String} {T : u_T} (d : decode cc pc = .ok (.new index, 3)) (fs : List Value) (ty : Nat → FieldType) (hty : ∀ k, k < n → parseFieldDescriptor (T k).2.2.1 = some (ty k)) (hin : ∀ w ∈ u_ws C1 T n, w ∈ ct_UW) (h1 : Cond.classLink own index C1 ∈ ct_UW) (h2 : Cond.instantiable C1 n ∈ ct_UW) (h3 : Cond.initialized C1 ∈ ct_UW) (hc : vwCl[ci]? = some (C1, T, n)) (hfs : ∀ j, j < n → defaultValue (ty j) = vp_V fs j) (hlo : o + a0 ≤ s.heap.size) (hcells : kc + 1 ≤ R.cells) (hslots : ks + n ≤ R.slots) (kk : cq_J p l e R s mth args below meth c nL D o a0 (N + 1) (va_up f N (.inr (ci, fs))) (kc + 1) (ks + n) QQ (pc + 3) lv (.ref (o + N) :: st)) : cq_J p l e R s mth args below meth c nL D o a0 N f kc ks QQ pc lv st := by
  intro H locs ls hz hP hS hl
  have hKn := C.2.2.2.2.2.1.1 ci _ hc
  refine W.newcK C.1 C.2.1 C.2.2.2.1 (C.2.2.2.2.1 _ h1) (C.2.2.2.2.1 _ h2) (C.2.2.2.2.1 _ h3) rfl d hcells hslots hKn.2.1 hz fun H1 kC hkC e1 z1 o1 => ?_
  have hk : ∀ (k : Nat) (x : Nat × va_E), (cq_pw o N f)[k]? = some x → H1[x.1]? = H[x.1]? := fun k x hx => o1 x.1 (by rw [← hz]; exact (hP k x hx).lt)
  refine kk H1 locs ls (by rw [z1]; omega) ?_ ⟨Nat.le_trans hS.1 (by omega), fun x h1 h2 => (o1 x (by have := hS.1; omega)).trans (hS.2.1 x h1 h2), hS.2.2⟩ hl
  rw [← cq_push]
  refine (hP.kept hk).app (fun k x hx => ?_)
  have hz : k < 1 := (List.getElem?_eq_some_iff.mp hx).1
  rw [show k = 0 by omega] at hx
  cases hx
  exact ⟨_, hc, (u_born ty C.2.2.2.2.1 hin hKn hkC e1 hty).to hfs⟩
theorem cq_newa (C : ct_Cx p s mth c cc nL args own D cy) {atype : ArrayType} (d : decode cc pc = .ok (.newarray atype, 2)) {n : Int32} (n1 : Nat) (x : vp_A) (t0 kd : Nat) (ty : FieldType) (hty : newarray.typeOf atype = ty) (hpr : ∀ C : String, ty ≠ .object C) (hw : Cond.arrayClass (newarray.typeOf atype) ∈ ct_UW) (ht : (ct_tys cy)[t0]? = some (cy kd, ty)) (ha : ∀ cA : ClassId, vp_cell cA x = arrV cA n1 (fun _ => defaultValue ty)) (hn : ¬ n < 0) (hN : n.toNatClampNeg = n1) (hbytes : n1 * componentBytes ty ≤ 536870912) (hcells : kc + 1 ≤ R.cells) (hslots : ks + n1 ≤ R.slots) (hlo : o + a0 ≤ s.heap.size) (kk : cq_J p l e R s mth args below meth c nL D o a0 (N + 1) (va_up f N (.inl (cy kd, x))) (kc + 1) (ks + n1) QQ (pc + 2) lv (.ref (o + N) :: st)) : cq_J p l e R s mth args below meth c nL D o a0 N f kc ks QQ pc lv (.int n :: st) := by
  subst hty
  intro H locs ls hz hP hS hl
  refine va_newaK C.1 C.2.1 (C.2.2.2.2.1 _ hw) rfl d rfl hn hN hbytes hcells hslots hz fun H1 cA e1 z1 o1 hAr hNm => ?_
  have hk : ∀ (k : Nat) (x : Nat × va_E), (cq_pw o N f)[k]? = some x → H1[x.1]? = H[x.1]? := fun k x hx => o1 x.1 (by rw [← hz]; exact (hP k x hx).lt)
  have hcA : cA = cy kd := by
    have h2 := (C.2.2.2.2.2.1.2 t0 _ ht).2
    cases atype <;> exact Option.some.inj (hNm.symm.trans h2)
  refine kk H1 locs ls (by rw [z1]; omega) ?_ ⟨Nat.le_trans hS.1 (by omega), fun x h1 h2 => (o1 x (by have := hS.1; omega)).trans (hS.2.1 x h1 h2), hS.2.2⟩ hl
  rw [← cq_push]
  refine (hP.kept hk).app (fun k y hx => ?_)
  have hz : k < 1 := (List.getElem?_eq_some_iff.mp hx).1
  rw [show k = 0 by omega] at hx
  cases hx
  show H1[o + N]? = some (vp_cell _ _)
  rw [ha, ← hcA]
  exact e1
theorem cq_newq (C : ct_Cx p s mth c cc nL args own D cy) {index : Nat} {C1 : String} (d : decode cc pc = .ok (.anewarray index, 3)) {n : Int32} (n1 : Nat) (t0 kd : Nat) (hw : Cond.classLink own index C1 ∈ ct_UW) (hover : va_AO C1 s) (ht : (ct_tys cy)[t0]? = some (cy kd, .object C1)) (hn : ¬ n < 0) (hN : n.toNatClampNeg = n1) (hbytes : n1 * 4 ≤ 536870912) (hcells : kc + 1 ≤ R.cells) (hslots : ks + n1 ≤ R.slots) (hlo : o + a0 ≤ s.heap.size) (kk : cq_J p l e R s mth args below meth c nL D o a0 (N + 1) (va_up f N (.inl (cy kd, n1, .inr (.inr (.inr (.inr (fun _ => none))))))) (kc + 1) (ks + n1) QQ (pc + 3) lv (.ref (o + N) :: st)) : cq_J p l e R s mth args below meth c nL D o a0 N f kc ks QQ pc lv (.int n :: st) := by
  subst hN
  intro H locs ls hz hP hS hl
  refine W.anew C.1 C.2.1 C.2.2.2.1 (C.2.2.2.2.1 _ hw) (va_AO.use hover) rfl d rfl hn hbytes hcells hslots fun cA kA comp f1 f2 f3 f4 => ?_
  generalize hH1 : H.push ({ cls := cA, slots := Array.replicate n.toNatClampNeg .null, vm := .none } : Cell) = H1
  have z1 : H1.size = H.size + 1 := by rw [← hH1, Array.size_push]
  have e1 : H1[H.size]? = some (arrV cA n.toNatClampNeg (fun _ => .null)) := by rw [← hH1, Array.getElem?_push_size, ← arrV_new]
  have o1 : ∀ q : Nat, q < H.size → H1[q]? = H[q]? := fun q hq => by rw [← hH1, Array.getElem?_push, if_neg (Nat.ne_of_lt hq)]
  have hk : ∀ (k : Nat) (x : Nat × va_E), (cq_pw o N f)[k]? = some x → H1[x.1]? = H[x.1]? := fun k x hx => o1 x.1 ((hP k x hx).lt)
  have hcA : cA = cy kd := by
    obtain ⟨-, -, -, -, -, h4⟩ := (C.2.2.2.2.2.1.2 t0 _ ht).2
    exact Option.some.inj (f1.symm.trans h4)
  rw [hz]
  refine kk H1 locs ls (by omega) ?_ ⟨Nat.le_trans hS.1 (by omega), fun x h1 h2 => (o1 x (by have := hS.1; omega)).trans (hS.2.1 x h1 h2), hS.2.2⟩ hl
  rw [← cq_push]
  refine (hP.kept hk).app (fun k y hx => ?_)
  have hz2 : k < 1 := (List.getElem?_eq_some_iff.mp hx).1
  rw [show k = 0 by omega] at hx
  cases hx
  show H1[o + N]? = some (vp_cell _ _)
  rw [vp_cell_q, ← hcA, ← hz]
  exact e1
theorem cq_get1 (C : ct_Cx p s mth c cc nL args own D cy) {ci n index k a : Nat} {C1 : String} {T : u_T} {v : Value} (d : decode cc pc = .ok (.getfield index, 3)) (fs : List Value) (ha : a < N) (hE : f a = .inr (ci, fs)) (hc : vwCl[ci]? = some (C1, T, n)) (hin : ∀ w ∈ u_ws C1 T n, w ∈ ct_UW) (hk : k < n) (hT : (T k).1 = C1) (hw : Cond.fieldLink own index C1 (T k).2.1 (T k).2.2.1 ∈ ct_UW) (hv : fs[k]? = some v) (kk : cq_J p l e R s mth args below meth c nL D o a0 N f kc ks QQ (pc + 3) lv (v :: st)) : cq_J p l e R s mth args below meth c nL D o a0 N f kc ks QQ pc lv (.ref (o + a) :: st) := fun H locs ls hz hP hS hl => va_get (D := D) (ci := ci) C.1 C.2.1 C.2.2.2.2.1 hin C.2.2.2.1 C.2.2.2.2.2.1 hP a (by rw [cq_get ha, hE]) hc k hk (C.2.2.2.2.1 _ hw) (fun _ h => by rw [← hT]; exact h) hv d (kk H locs ls hz hP hS hl)
theorem cq_aald (C : ct_Cx p s mth c cc nL args own D cy) {a t0 n : Nat} {cA : ClassId} {C1 : String} {i : Int32} {g : Nat → Option Nat} (d : decode cc pc = .ok (.aaload, 1)) (v : Nat) (ha : a < N) (hE : f a = .inl (cA, n, .inr (.inr (.inr (.inr g))))) (ht : (ct_tys cy)[t0]? = some (cA, .object C1)) (hi : vp_in i n) (hv : g i.toNatClampNeg = some v) (kk : cq_J p l e R s mth args below meth c nL D o a0 N f kc ks QQ (pc + 1) lv (.ref v :: st)) : cq_J p l e R s mth args below meth c nL D o a0 N f kc ks QQ pc lv (.int i :: .ref (o + a) :: st) := fun H locs ls hz hP hS hl => va_aldq (D := D) (f := g) C.1 C.2.1 C.2.2.2.2.2.1 hP a t0 (by rw [cq_get ha, hE]) ht hi d (by rw [hv]; exact kk H locs ls hz hP hS hl)
theorem cq_alen (C : ct_Cx p s mth c cc nL args own D cy) {a t0 : Nat} {cA : ClassId} {x : vp_A} {ty : FieldType} {v : Int32} (d : decode cc pc = .ok (.arraylength, 1)) (ha : a < N) (hE : f a = .inl (cA, x)) (ht : (ct_tys cy)[t0]? = some (cA, ty)) (hv : Int32.ofNat x.1 = v) (kk : cq_J p l e R s mth args below meth c nL D o a0 N f kc ks QQ (pc + 1) lv (.int v :: st)) : cq_J p l e R s mth args below meth c nL D o a0 N f kc ks QQ pc lv (.ref (o + a) :: st) := fun H locs ls hz hP hS hl => va_alen (D := D) C.1 C.2.1 C.2.2.2.2.2.1 hP a t0 (by rw [cq_get ha, hE]) ht hv d (kk H locs ls hz hP hS hl)
theorem cq_putF (C : ct_Cx p s mth c cc nL args own D cy) {ci n index k a : Nat} {C1 : String} {T : u_T} {ty : FieldType} {v : Value} (d : decode cc pc = .ok (.putfield index, 3)) (fs : List Value) (ty0 : Nat → FieldType) (hty : ∀ k, k < n → parseFieldDescriptor (T k).2.2.1 = some (ty0 k)) (hnm : ∀ a, a < n → ∀ b, b < n → a ≠ b → (T a).2.1 ≠ (T b).2.1) (ha : a < N) (haa : a0 ≤ a) (hE : f a = .inr (ci, fs)) (hc : vwCl[ci]? = some (C1, T, n)) (hin : ∀ w ∈ u_ws C1 T n, w ∈ ct_UW) (hk : k < n) (hT : (T k).1 = own) (hC1 : C1 = own) (hfi : (T k).2.2.2 = true) (hinit : meth.name = "<init>") (hd : ty0 k = ty) (hw : Cond.fieldLink own index C1 (T k).2.1 (T k).2.2.1 ∈ ct_UW) (hn : narrow ty v = v) (hfit : fits ty v = true) (hl0 : k < fs.length) (kk : cq_J p l e R s mth args below meth c nL D o a0 N (va_up f a (.inr (ci, fs.set k v))) kc ks QQ (pc + 3) lv st) : cq_J p l e R s mth args below meth c nL D o a0 N f kc ks QQ pc lv (v :: .ref (o + a) :: st) := by
  subst hd
  intro H locs ls hz hP hS hl
  have hK := C.2.2.2.2.2.1
  have hts := C.2.2.2.2.1
  have hap := va_apart (own := own) hts hin ty0 hty hnm hK hc
  obtain ⟨r, h1, cell, q1, q2, q3, q4⟩ := hP a _ (by rw [cq_get ha, hE])
  have hr : r = (C1, T, n) := Option.some.inj (h1.symm.trans hc)
  subst hr
  obtain ⟨hSl, hfc, kC, hkC, hkind⟩ := hK.1 ci _ hc
  obtain ⟨cf, kf, fi, fd, hi, hsl⟩ := hSl k hk
  have hlay := hts _ (hin _ (u_in_lay hk))
  unfold u_lay at hlay
  rw [if_pos hfi] at hlay
  have hst := (u_facts hfc hkC (u_lays hts hin hk) hi).1
  have hcf : mth.cls = cf := by
    obtain ⟨_, _, c', _, _, _, -, -, hf', -, -, -, hown2, -⟩ := Cond.laysFinal_spec hlay
    have e1 : c' = cf := by have := hi.symm.trans hf'; simp at this; exact this.1.symm
    rw [hT] at hown2
    rw [← e1]; exact Option.some.inj (C.2.2.2.1.symm.trans hown2)
  have h6 := u_fits hfc hkC hkind (Or.inr hlay) hi (hty k hk) hn hfit
  have hi2 : s.fieldFound? C1 (T k).2.1 (T k).2.2.1 = some (cf, kf, fi, fd) := by rw [hC1, ← hT]; exact hi
  refine W.putFinK C.1 C.2.1 C.2.2.2.1 (hts _ hw) hi2 hst hcf hinit (by rw [q2]; exact h6) q1 q3 (by rw [hsl]; exact k2_hasslot (q4 k hk)) rfl rfl d fun H' e1 e2 e3 => ?_
  rw [hsl] at e1 ⊢
  refine kk H' _ ls (by rw [e2]; exact hz) ?_ (hS.put e2 e3 (by show o + a0 ≤ o + a; omega)) hl
  rw [← cq_set]
  exact hP.set cq_D (by rw [cq_get ha, hE]) ⟨_, hc, t_OB.to (V := updV (vp_V fs) k v) ⟨_, e1, q2, q3, t_set q4 hap hk v⟩ (fun j _ => vp_updV_set hl0 v j)⟩ e3
theorem cq_aast (C : ct_Cx p s mth c cc nL args own D cy) {a b t0 n ci : Nat} {cA : ClassId} {r : vw_C} {i : Int32} {vs : List Value} (d : decode cc pc = .ok (.aastore, 1)) (g : Nat → Option Nat) (ha : a < N) (haa : a0 ≤ a) (hE : f a = .inl (cA, n, .inr (.inr (.inr (.inr g))))) (ht : (ct_tys cy)[t0]? = some (cA, .object r.1)) (hb : b < N) (hv : f b = .inr (ci, vs)) (hc : vwCl[ci]? = some r) (hi : vp_in i n) (kk : cq_J p l e R s mth args below meth c nL D o a0 N (va_up f a (.inl (cA, n, .inr (.inr (.inr (.inr (va_up g i.toNatClampNeg (some (o + b))))))))) kc ks QQ (pc + 1) lv st) : cq_J p l e R s mth args below meth c nL D o a0 N f kc ks QQ pc lv (.ref (o + b) :: .int i :: .ref (o + a) :: st) := by
  intro H locs ls hz hP hS hl
  have hK := C.2.2.2.2.2.1
  have hlt : i.toNatClampNeg < n := Nat.not_le.mp fun q => hi (Or.inr q)
  have h0 : ¬ i < 0 := fun q => hi (Or.inl q)
  obtain ⟨r', hr', cellV, g1, g2, g3, -⟩ := hP b _ (by rw [cq_get hb, hv])
  have hcls := (hK.1 ci r hc).2
  obtain ⟨kA, comp, k1, k2, k3, -⟩ := (hK.2 t0 _ ht).2
  have hcomp : comp = D.1 ci := Option.some.inj (k3.symm.trans hcls.1)
  subst hcomp
  obtain ⟨kC, hkC, -⟩ := hcls.2
  have hcell : H[o + a]? = some (vp_cell cA (n, .inr (.inr (.inr (.inr g))))) := hP a (o + a, .inl (cA, n, .inr (.inr (.inr (.inr g))))) (by rw [cq_get ha, hE])
  refine W.aast C.1 C.2.1 hcell (fun q h => by cases h) (fun h => by cases h) k1 k2 rfl hkC ⟨h0, by show _ < (arrV _ _ _).slots.size; rw [arrV_size]; exact hlt⟩ g1 (fun q h => by rw [g3] at h; cases h) (by rw [g2]; exact hkC) (by rw [g2]; exact va_assign hcls) rfl rfl d fun H1 e1 z oq => ?_
  refine kk H1 _ ls (by rw [z]; exact hz) ?_ (hS.put z oq (by show o + a0 ≤ o + a; omega)) hl
  rw [← cq_set]
  refine hP.set cq_D (by rw [cq_get ha, hE]) ?_ oq
  show H1[o + a]? = some (vp_cell _ _)
  rw [e1, vp_cell_q, vp_cell_q, arrV_store]
  congr 2
  funext q
  by_cases hq : q = i.toNatClampNeg
  · subst hq
    rw [va_up_self]
    simp [updV, va_rf]
  · rw [va_up_ne _ _ hq]
    simp [updV, hq]
theorem cq_vret (C : ct_Cx p s mth c cc nL args own D cy) (hr : meth.sig.returnType = none) (hlk : meth.locks = false) {sz : Nat} {f0 : Nat → va_E} (d : decode cc pc = .ok (.return_, 1)) (hN : N = a0 + sz) (hf : ∀ k, k < N → f k = cq_fin cy o a0 f0 k) : cq_J p l e R s mth args below meth c nL D o a0 N f kc ks (MQ below (cq_Q D cy o a0 sz f0) args s kc ks (fun q => o + a0 ≤ q)) pc lv [] := fun H locs ls hz hP hS hl => W.vret C.1 C.2.1 hr (fun t ht hW => ⟨⟨(), rfl, trivial, by rw [ht, hz, hN], by rw [ht, ← hN, ← cq_congr hf]; exact hP, va_K.moved hW.alike C.2.2.2.2.2.1, ct_NK_warm hW C.2.2.2.2.2.2⟩, hS.F ht⟩) hS.2.2 d
def ct_kI (own : String) (idx : Nat) (y : MethodName) (bytes : ByteArray) (maxL : Nat) (n : Nat) : Prop := (Cond.methodLinkNest own idx y "CellTransactions" ∈ ct_nest ∨ Cond.methodLink own idx y ∈ ct_UW) ∧ Cond.instanceMethod y ∈ ct_UW ∧ Cond.initialized y.cls ∈ ct_UW ∧ Cond.code y bytes maxL none ∈ ct_UW ∧ y.name = "<init>" ∧ (y.cls ≠ "java/lang/invoke/MethodHandle" ∧ y.cls ≠ "java/lang/invoke/VarHandle" ∧ (parseMethodDescriptor y.desc).map (fun d => d.parameters.length) = some n)
/-- a constructor's call: the object is the last cell; behind it all that it made stands as the layout says -/
theorem cq_call (C : ct_Cx p s mth c cc nL args own D cy) {y : MethodName} {bytes : ByteArray} {maxL index n b sz mc ms : Nat} {rmg : Room} {As stk : List Value} {g : Nat → va_E} (hM : Met l y (ct_ws y bytes maxL none) rmg (va_Pc (.ref (o + b) :: As) (cq_P D cy o (b + 1) g)) (cq_Q D cy o b sz g) mc ms (fun q => o + b ≤ q)) (d : decode cc pc = .ok (.invokespecial index, 3)) (hk : ct_kI own index y bytes maxL n) (hab : a0 ≤ b) (hst : stk = As.reverse ++ .ref (o + b) :: st) (hn : As.length = n) (hcat : (st.map fun v => v.category).sum ≤ 8) (hroom : rmg.cells = mc ∧ rmg.slots = ms ∧ rmg.frames + 1 ≤ R.frames ∧ 8 + (maxL + 11) + rmg.locals ≤ R.locals) (hcs : kc + mc ≤ R.cells ∧ ks + ms ≤ R.slots) (kk : cq_J p l e R s mth args below meth c nL D o a0 (b + sz) (cq_fin cy o b g) (kc + mc) (ks + ms) QQ (pc + 3) lv st) : cq_J p l e R s mth args below meth c nL D o a0 (b + 1) g kc ks QQ pc lv stk := by
  intro H locs ls hz hP hS hl
  obtain ⟨hlink, hinst, hini, hcode, hyn, hd⟩ := hk
  have hrun : va_Run p l e R s mth args below meth c H locs kc ks mc ms (F0 mth pc ls stk) st (cq_Q D cy o b sz g (Value.ref (o + b) :: As).toArray) (fun q => o + b ≤ q) := by
    rcases hlink with hlink | hlink
    · exact va_runIN (As := As) (rest := st) ⟨C.1, C.2.1, C.2.2.1, C.2.2.2.1, C.2.2.2.2.1⟩ hM ⟨va_cnB n C.2.2.2.2.1 (ct_GI (ct_wsin hcode)) rfl hroom.1 hroom.2.1 (C.2.2.2.2.2.2.1 _ hlink) (C.2.2.2.2.1 _ hini) hd hroom.2.2, hyn, C.2.2.2.2.1 _ hinst⟩ ⟨cq_blind _ D cy o _ g, cq_pre hz hP C.2.2.2.2.2.1 C.2.2.2.2.2.2⟩ rfl hn hl.1 hst (lv_room hcat) d hcs
    · exact va_runI (As := As) (rest := st) ⟨C.1, C.2.1, C.2.2.1, C.2.2.2.1, C.2.2.2.2.1⟩ hM (cwI n C.2.2.2.2.1 (ct_GI (ct_wsin hcode)) rfl hroom.1 hroom.2.1 (C.2.2.2.2.1 _ hini) (C.2.2.2.2.1 _ hlink) (C.2.2.2.2.1 _ hinst) hyn hd hroom.2.2) ⟨cq_blind _ D cy o _ g, cq_pre hz hP C.2.2.2.2.2.1 C.2.2.2.2.2.2⟩ rfl hn hl.1 hst (lv_room hcat) d hcs
  refine va_callv hrun hS (fun q _ h => by show o + a0 ≤ q; have h : o + b ≤ q := h; omega) (fun q h => by show o + a0 ≤ q; have h : o + b ≤ q := h; omega) (fun u t H1 locs1 ht hvm hw hB hz1 hk1 hS1 => ?_)
  obtain ⟨z1, P1, -, -⟩ := hB
  rw [ht] at z1 P1
  exact kk H1 locs1 ls z1 P1 hS1 hl
/-- where nothing but the layout stands from N on -/
def cq_ab (cy : Nat → ClassId) (o N : Nat) (F : Nat → va_E) : Prop := ∀ k, N ≤ k → F k = ct_E cy o ct_mz k
theorem cq_ab_fin {a M : Nat} {f : Nat → va_E} (h : a ≤ M) : cq_ab cy o M (cq_fin cy o a f) := fun k hk => if_neg (by omega)
theorem cq_ab_up {a M : Nat} {F : Nat → va_E} {x : va_E} (ha : a < M) (h : cq_ab cy o M F) : cq_ab cy o M (va_up F a x) := fun k hk => (va_up_ne _ _ (by omega)).trans (h k hk)
theorem cq_ab_mono {M M' : Nat} {F : Nat → va_E} (h : cq_ab cy o M F) (hm : M ≤ M') : cq_ab cy o M' F := fun k hk => h k (by omega)
theorem cq_keep {M : Nat} {F : Nat → va_E} {x : va_E} (h : F M = x) (k : Nat) : va_up F M x k = F k := by
  by_cases hk : k = M
  · rw [hk, va_up_self, h]
  · rw [va_up_ne _ _ hk]
theorem cq_back {M : Nat} {F : Nat → va_E} {x : va_E} (h : cq_ab cy o M F) (k : Nat) : cq_fin cy o M (va_up F M x) k = F k := by
  unfold cq_fin
  by_cases hk : k < M
  · rw [if_pos hk, va_up_ne _ _ (Nat.ne_of_lt hk)]
  · rw [if_neg hk, h k (by omega)]
theorem cq_uu {F : Nat → va_E} {a : Nat} {x y : va_E} (k : Nat) : va_up (va_up F a x) a y k = va_up F a y k := by
  by_cases hk : k = a
  · rw [hk, va_up_self, va_up_self]
  · rw [va_up_ne _ _ hk, va_up_ne _ _ hk, va_up_ne _ _ hk]
theorem cq_sw {F : Nat → va_E} {a b : Nat} {x y z : va_E} (hab : a ≠ b) (k : Nat) : va_up (va_up (va_up F a x) b z) a y k = va_up (va_up F a y) b z k := by
  by_cases hk : k = a
  · subst hk
    rw [va_up_self, va_up_ne _ _ hab, va_up_self]
  · by_cases hb : k = b
    · subst hb
      rw [va_up_ne _ _ hk, va_up_self, va_up_self]
    · rw [va_up_ne _ _ hk, va_up_ne _ _ hb, va_up_ne _ _ hk, va_up_ne _ _ hb, va_up_ne _ _ hk]
theorem cq_arr {cA : ClassId} {n : Nat} {g g' : Nat → Option Nat} (h : ∀ i, i < n → g i = g' i) : vp_cell cA (n, .inr (.inr (.inr (.inr g)))) = vp_cell cA (n, .inr (.inr (.inr (.inr g')))) := by
  rw [vp_cell_q, vp_cell_q]
  unfold arrV
  congr 2
  funext j
  show va_rf (g j.val) = va_rf (g' j.val)
  rw [h j.val j.isLt]
/-- a row of references counts as far as it is long -/
theorem cq_convA {b n : Nat} {cA : ClassId} {g : Nat → Option Nat} (g' : Nat → Option Nat) {F : Nat → va_E} (h : ∀ i, i < n → g i = g' i) (kk : cq_J p l e R s mth args below meth c nL D o a0 N (va_up F b (.inl (cA, n, .inr (.inr (.inr (.inr g')))))) kc ks QQ pc lv st) : cq_J p l e R s mth args below meth c nL D o a0 N (va_up F b (.inl (cA, n, .inr (.inr (.inr (.inr g)))))) kc ks QQ pc lv st := by
  intro H locs ls hz hP hS hl
  refine kk H locs ls hz (fun k q hq => ?_) hS hl
  obtain ⟨hk, rfl⟩ := cq_inv hq
  have h1 := hP k _ (cq_get hk)
  by_cases hb : k = b
  · subst hb
    rw [va_up_self] at h1 ⊢
    have h2 : H[o + k]? = some (vp_cell cA (n, .inr (.inr (.inr (.inr g))))) := h1
    show H[o + k]? = some (vp_cell cA (n, .inr (.inr (.inr (.inr g')))))
    rw [h2, cq_arr h]
  · rw [va_up_ne _ _ hb] at h1 ⊢
    exact h1
def cq_g (i : Nat) (h : Nat → Option Nat) : Nat → Option Nat := fun j => if j < i then h j else none
theorem cq_g0 (h : Nat → Option Nat) : (fun _ => none) = cq_g 0 h := by funext j; simp [cq_g]
theorem cq_g1 (i : Nat) (h : Nat → Option Nat) : va_up (cq_g i h) i (h i) = cq_g (i + 1) h := by
  funext j
  simp only [cq_g, va_up]
  by_cases h1 : j = i
  · subst h1; simp
  · rw [if_neg h1]
    by_cases h2 : j < i
    · rw [if_pos h2, if_pos (by omega)]
    · rw [if_neg h2, if_neg (by omega)]
theorem cq_gn {n i : Nat} (h : Nat → Option Nat) (hi : i < n) : cq_g n h i = h i := if_pos hi
/-- a new row of numbers, as the layout has it -/
theorem cq_rowI (C : ct_Cx p s mth c cc nL args own D cy) {atype : ArrayType} (d : decode cc pc = .ok (.newarray atype, 2)) {n : Int32} (n1 : Nat) (x : vp_A) (t0 kd : Nat) (ty : FieldType) (hab : cq_ab cy o N f) (hE : ct_E cy o ct_mz N = .inl (cy kd, x)) (hty : newarray.typeOf atype = ty) (hpr : ∀ C : String, ty ≠ .object C) (hw : Cond.arrayClass (newarray.typeOf atype) ∈ ct_UW) (ht : (ct_tys cy)[t0]? = some (cy kd, ty)) (ha : ∀ cA : ClassId, vp_cell cA x = arrV cA n1 (fun _ => defaultValue ty)) (hn : ¬ n < 0) (hN : n.toNatClampNeg = n1) (hbytes : n1 * componentBytes ty ≤ 536870912) (hcells : kc + 1 ≤ R.cells) (hslots : ks + n1 ≤ R.slots) (hlo : o + a0 ≤ s.heap.size) (kk : cq_J p l e R s mth args below meth c nL D o a0 (N + 1) f (kc + 1) (ks + n1) QQ (pc + 2) lv (.ref (o + N) :: st)) : cq_J p l e R s mth args below meth c nL D o a0 N f kc ks QQ pc lv (.int n :: st) :=
  cq_newa C d n1 x t0 kd ty hty hpr hw ht ha hn hN hbytes hcells hslots hlo (cq_conv f (fun k _ => cq_keep ((hab N (Nat.le_refl N)).trans hE) k) kk)
theorem cq_store {lv' : List (Nat × Value)} {pc' : Nat} {st' : List Value} (r : ∀ (H : Heap) (locs : List Loc) (ls : Array Slot), lv_has ls nL lv → (∀ ls' : Array Slot, lv_has ls' nL lv' → W p l e R s mth args below meth c H locs kc ks QQ (F0 mth pc' ls' st')) → W p l e R s mth args below meth c H locs kc ks QQ (F0 mth pc ls st)) (kk : cq_J p l e R s mth args below meth c nL D o a0 N f kc ks QQ pc' lv' st') : cq_J p l e R s mth args below meth c nL D o a0 N f kc ks QQ pc lv st := fun H locs ls hz hP hS hl => r H locs ls hl (fun ls' hl' => kk H locs ls' hz hP hS hl')
theorem cq_num {N' kc' ks' : Nat} (h1 : N = N') (h2 : kc = kc') (h3 : ks = ks') (kk : cq_J p l e R s mth args below meth c nL D o a0 N' f kc' ks' QQ pc lv st) : cq_J p l e R s mth args below meth c nL D o a0 N f kc ks QQ pc lv st := by subst h1 h2 h3; exact kk
end CQ
