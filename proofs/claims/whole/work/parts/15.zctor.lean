/-! constructors: worlds as lists that grow -/
def zr_B (D : va_G) (ca : Nat → ClassId) (A : Nat → Prop) (H0 : Heap) (s : State) (ws : va_W) (H : Heap) (locs : List Loc) : Prop := va_K D vwCl (zz_tys ca) s ∧ va_P D vwCl ws H ∧ va_D A ws ∧ va_S A H0 H locs
def zr_FW (own : String) (index ci j : Nat) (ty : FieldType) : Prop :=
  ∃ (C : String) (T : u_T) (N : Nat) (ty0 : Nat → FieldType), vwCl[ci]? = some (C, T, N) ∧ j < N ∧ (∀ w ∈ u_ws C T N, w ∈ lw_tbl.filter zz_good) ∧ Cond.fieldLink own index (T j).1 (T j).2.1 (T j).2.2.1 ∈ lw_tbl ∧ (∀ k, k < N → parseFieldDescriptor (T k).2.2.1 = some (ty0 k)) ∧ (∀ a, a < N → ∀ b, b < N → a ≠ b → (T a).2.1 ≠ (T b).2.1) ∧ ((T j).2.2.2 = false ∨ ((T j).2.2.2 = true ∧ (T j).1 = own)) ∧ parseFieldDescriptor (T j).2.2.1 = some ty
def zr_Pre (D : va_G) (ca : Nat → ClassId) (ws : va_W) (av : List Value) (sz : Nat) : Array Value → State → Prop := va_Pc av (fun U => U.heap.size = sz ∧ zz_W U ∧ va_K D vwCl (zz_tys ca) U ∧ va_P D vwCl ws U.heap ∧ va_D (fun _ => True) ws)
def zr_Q (D : va_G) (ca : Nat → ClassId) (A : Nat → Prop) (after : (Nat → Nat) → va_W) : Array Value → State → Outcome → State → Prop := va_Qv (fun (_ : Nat → Nat) => True) (fun u t => va_K D vwCl (zz_tys ca) t ∧ va_P D vwCl (after u) t.heap ∧ va_D A (after u)) A
theorem zr_frame {A0 : Nat → Prop} {D : va_G} {cl : List vw_C} {pre wc w1 : va_W} {H H1 : Heap} (hP : va_P D cl (pre ++ wc) H) (hD : va_D A0 (pre ++ wc)) (hk : ∀ q : Nat, q < H.size → ¬ va_A wc H.size q → H1[q]? = H[q]?) (hF : ∀ q, va_A wc H.size q → A0 q) (hP1 : va_P D cl w1 H1) (hD1 : va_D (va_A wc H.size) w1) : va_P D cl (pre ++ w1) H1 ∧ va_D A0 (pre ++ w1) := by
  have hpre : ∀ (k : Nat) (x : Nat × va_E), pre[k]? = some x → (pre ++ wc)[k]? = some x := fun k x hx => by rw [List.getElem?_append_left (List.getElem?_eq_some_iff.mp hx).1]; exact hx
  have hwc : ∀ (k : Nat) (x : Nat × va_E), wc[k]? = some x → (pre ++ wc)[pre.length + k]? = some x := fun k x hx => by rw [List.getElem?_append_right (Nat.le_add_right _ _), Nat.add_sub_cancel_left]; exact hx
  have apart : ∀ (k : Nat) (x : Nat × va_E), pre[k]? = some x → x.1 < H.size ∧ ¬ va_A wc H.size x.1 := by
    intro k x hx
    have hl := (hP k x (hpre k x hx)).lt
    refine ⟨hl, fun h => ?_⟩
    rcases h with ⟨k2, e, h⟩ | h
    · have := hD.1 k (pre.length + k2) x (x.1, e) (hpre k x hx) (hwc k2 _ h) rfl
      have hk := (List.getElem?_eq_some_iff.mp hx).1
      omega
    · omega
  refine ⟨va_P.app (fun k x hx => (hP k x (hpre k x hx)).kept (hk x.1 (apart k x hx).1 (apart k x hx).2)) hP1, va_D.app ⟨fun i j x y hx hy => hD.1 i j x y (hpre i x hx) (hpre j y hy), fun k x hx => hD.2 k x (hpre k x hx)⟩ (hD1.weaken (fun k q _ h => hF q.1 h)) (fun i j x y hx hy hxy => ?_)⟩
  exact (apart i x hx).2 (by rw [hxy]; exact hD1.2 j y hy)
section ZC
variable {p : Program} {l : Launch} {e : Env} {R : Room} {s : State} {m : MethodId} {args : Array Value} {below : List Frame} {meth : Method} {c : Code} {H : Heap} {locs : List Loc} {cells slots : Nat} {Q : State → Prop}
variable {cc : ByteArray} {pc : Nat} {ls : Array Slot} {rest : List Value} {D : va_G} {A : Nat → Prop} {H0 : Heap} {ca : Nat → ClassId} {ws : va_W}
theorem zr_newI (hx : p.tables.exec = Jvm.exec) (hb : c.code = cc) (zw : zz_W s) (hB : zr_B D ca A H0 s ws H locs) (hA : ∀ q, H0.size ≤ q → A q) (N : Nat) {n : Int32} (hn : n = nI N) (hN : N < 65536) (hcells : cells + 1 ≤ R.cells) (hslots : slots + N ≤ R.slots) (hdg : decode cc pc = .ok (.newarray .int, 2))
    (kk : ∀ (q : Nat) (H : Heap), zr_B D ca A H0 s (ws ++ [(q, .inl (ca 0, N, .inl (fun _ => 0)))]) H locs → W p l e R s m args below meth c H locs (cells + 1) (slots + N) Q (F0 m (pc + 2) ls (.ref q :: rest))) : W p l e R s m args below meth c H locs cells slots Q (F0 m pc ls (.int n :: rest)) := by
  obtain ⟨hK, hP, hD, hS⟩ := hB
  subst hn
  refine va_newa (atype := .int) hx hb (zz_W_use zw zk_arrI rfl) (ty := .int) rfl hK hP hD hS hA (N' := N) (a0 := (N, .inl (fun _ => 0))) (fun _ => rfl) (nI_pos (by omega)) (nI_clamp (by omega)) (by show N * 4 ≤ _; omega) hcells hslots hdg (fun q cA H1 hK1 hP1 hD1 hS1 => ?_)
  have hcA : cA = ca 0 := zz_cA (i := 3) (j := 0) (fun C h => by cases h) hK1 rfl rfl
  subst hcA
  exact kk q H1 ⟨hK, hP1, hD1, hS1⟩
theorem zr_newZ (hx : p.tables.exec = Jvm.exec) (hb : c.code = cc) (zw : zz_W s) (hB : zr_B D ca A H0 s ws H locs) (hA : ∀ q, H0.size ≤ q → A q) (N : Nat) {n : Int32} (hn : n = nI N) (hN : N < 65536) (hcells : cells + 1 ≤ R.cells) (hslots : slots + N ≤ R.slots) (hdg : decode cc pc = .ok (.newarray .boolean, 2))
    (kk : ∀ (q : Nat) (H : Heap), zr_B D ca A H0 s (ws ++ [(q, .inl (ca 1, N, .inl (fun _ => 0)))]) H locs → W p l e R s m args below meth c H locs (cells + 1) (slots + N) Q (F0 m (pc + 2) ls (.ref q :: rest))) : W p l e R s m args below meth c H locs cells slots Q (F0 m pc ls (.int n :: rest)) := by
  obtain ⟨hK, hP, hD, hS⟩ := hB
  subst hn
  refine va_newa (atype := .boolean) hx hb (zz_W_use zw zk_arrZ rfl) (ty := .boolean) rfl hK hP hD hS hA (N' := N) (a0 := (N, .inl (fun _ => 0))) (fun _ => rfl) (nI_pos (by omega)) (nI_clamp (by omega)) (by show N * 1 ≤ _; omega) hcells hslots hdg (fun q cA H1 hK1 hP1 hD1 hS1 => ?_)
  have hcA : cA = ca 1 := zz_cA (i := 3) (j := 1) (fun C h => by cases h) hK1 rfl rfl
  subst hcA
  exact kk q H1 ⟨hK, hP1, hD1, hS1⟩
theorem zr_newJ (hx : p.tables.exec = Jvm.exec) (hb : c.code = cc) (zw : zz_W s) (hB : zr_B D ca A H0 s ws H locs) (hA : ∀ q, H0.size ≤ q → A q) (N : Nat) {n : Int32} (hn : n = nI N) (hN : N < 65536) (hcells : cells + 1 ≤ R.cells) (hslots : slots + N ≤ R.slots) (hdg : decode cc pc = .ok (.newarray .long, 2))
    (kk : ∀ (q : Nat) (H : Heap), zr_B D ca A H0 s (ws ++ [(q, .inl (ca 2, N, .inr (.inl (fun _ => 0))))]) H locs → W p l e R s m args below meth c H locs (cells + 1) (slots + N) Q (F0 m (pc + 2) ls (.ref q :: rest))) : W p l e R s m args below meth c H locs cells slots Q (F0 m pc ls (.int n :: rest)) := by
  obtain ⟨hK, hP, hD, hS⟩ := hB
  subst hn
  refine va_newa (atype := .long) hx hb (zz_W_use zw zk_arrJ rfl) (ty := .long) rfl hK hP hD hS hA (N' := N) (a0 := (N, .inr (.inl (fun _ => 0)))) (fun _ => rfl) (nI_pos (by omega)) (nI_clamp (by omega)) (by show N * 8 ≤ _; omega) hcells hslots hdg (fun q cA H1 hK1 hP1 hD1 hS1 => ?_)
  have hcA : cA = ca 2 := zz_cA (i := 3) (j := 2) (fun C h => by cases h) hK1 rfl rfl
  subst hcA
  exact kk q H1 ⟨hK, hP1, hD1, hS1⟩
def zr_NW (own : String) (index ci N : Nat) (fs : List Value) : Prop := ∃ (C : String) (T : u_T) (ty0 : Nat → FieldType), vwCl[ci]? = some (C, T, N) ∧ (∀ w ∈ u_ws C T N, w ∈ lw_tbl.filter zz_good) ∧ (∀ k, k < N → parseFieldDescriptor (T k).2.2.1 = some (ty0 k)) ∧ Cond.classLink own index C ∈ lw_tbl ∧ Cond.instantiable C N ∈ lw_tbl ∧ Cond.initialized C ∈ lw_tbl ∧ (∀ j, j < N → defaultValue (ty0 j) = vp_V fs j)
theorem zr_new (hx : p.tables.exec = Jvm.exec) (hb : c.code = cc) {own : String} (hown : s.vm.findClass own = some m.cls) (zw : zz_W s) (hB : zr_B D ca A H0 s ws H locs) (hA : ∀ q, H0.size ≤ q → A q) {index ci N : Nat} {fs : List Value} (F : zr_NW own index ci N fs) (hcells : cells + 1 ≤ R.cells) (hslots : slots + N ≤ R.slots) (hdg : decode cc pc = .ok (.new index, 3))
    (kk : ∀ (q : Nat) (H : Heap), zr_B D ca A H0 s (ws ++ [(q, .inr (ci, fs))]) H locs → W p l e R s m args below meth c H locs (cells + 1) (slots + N) Q (F0 m (pc + 3) ls (.ref q :: rest))) : W p l e R s m args below meth c H locs cells slots Q (F0 m pc ls rest) := by
  obtain ⟨hK, hP, hD, hS⟩ := hB
  obtain ⟨C, T, ty0, hc, hin, hty, hcl, hins, hini, hfs⟩ := F
  exact va_new (ci := ci) (fs := fs) (C := C) (T := T) (N := N) hx hb (zz_hts zw) hin ty0 hty hown (zz_W_use zw hcl rfl) (zz_W_use zw hins rfl) (zz_W_use zw hini rfl) hK hP hD hS hA hc hfs hcells hslots hdg (fun q H1 hP1 hD1 hS1 => kk q H1 ⟨hK, hP1, hD1, hS1⟩)
theorem zr_put (hx : p.tables.exec = Jvm.exec) (hb : c.code = cc) {own : String} (hown : s.vm.findClass own = some m.cls) (zw : zz_W s) (hin2 : meth.name = "<init>") (hB : zr_B D ca A H0 s ws H locs) {index ci j k a : Nat} {ty : FieldType} {fs : List Value} {v : Value} (F : zr_FW own index ci j ty) (he : ws[k]? = some (a, .inr (ci, fs))) (hn : narrow ty v = v) (hfit : fits ty v = true) (hl : j < fs.length) (hdg : decode cc pc = .ok (.putfield index, 3))
    (kk : ∀ (H : Heap) (locs : List Loc), zr_B D ca A H0 s (ws.set k (a, .inr (ci, fs.set j v))) H locs → W p l e R s m args below meth c H locs cells slots Q (F0 m (pc + 3) ls rest)) : W p l e R s m args below meth c H locs cells slots Q (F0 m pc ls (v :: .ref a :: rest)) := by
  obtain ⟨hK, hP, hD, hS⟩ := hB
  obtain ⟨C, T, N, ty0, hc, hj, hin, hlk, hty, hnm, hfin, hpd⟩ := F
  rcases hfin with hfin | ⟨hfin, hdecl⟩
  · exact va_put (D := D) (ci := ci) (v := v) (ty := ty) (C := C) (T := T) (N := N) hx hb (zz_hts zw) hin ty0 hty hnm hown hK hP hD hS k he hc j hj (zz_W_use zw hlk rfl) (fun _ h9 => h9) hfin hpd hn hfit hl hdg (fun H1 locs1 h1 h2 h3 => kk H1 locs1 ⟨hK, h1, h2, h3⟩)
  · exact va_putF (D := D) (ci := ci) (v := v) (ty := ty) (C := C) (T := T) (N := N) hx hb (zz_hts zw) hin ty0 hty hnm hown hK hP hD hS k he hc j hj (zz_W_use zw hlk rfl) (fun _ h9 => h9) hfin hin2 hdecl hpd hn hfit hl hdg (fun H1 locs1 h1 h2 h3 => kk H1 locs1 ⟨hK, h1, h2, h3⟩)
theorem zr_get (hx : p.tables.exec = Jvm.exec) (hb : c.code = cc) {own : String} (hown : s.vm.findClass own = some m.cls) (zw : zz_W s) (hB : zr_B D ca A H0 s ws H locs) {index ci j k a : Nat} {fs : List Value} {v : Value} (F : zz_FL own index ci j) (he : ws[k]? = some (a, .inr (ci, fs))) (hv : fs[j]? = some v) (hdg : decode cc pc = .ok (.getfield index, 3))
    (kk : W p l e R s m args below meth c H locs cells slots Q (F0 m (pc + 3) ls (v :: rest))) : W p l e R s m args below meth c H locs cells slots Q (F0 m pc ls (.ref a :: rest)) := by
  obtain ⟨hK, hP, hD, hS⟩ := hB
  obtain ⟨C, T, N, hc, hj, hin, hl⟩ := F
  rcases hl with hl | ⟨host, hl⟩
  · exact va_get (D := D) (ci := ci) (v := v) (C := C) (T := T) (N := N) hx hb (zz_hts zw) hin hown hK hP k he hc j hj (zz_W_use zw hl rfl) (fun _ h9 => h9) hv hdg kk
  · exact va_getN (D := D) (ci := ci) (v := v) (C := C) (T := T) (N := N) hx hb (zz_hts zw) hin hown hK hP k he hc j hj (zz_W_use zw hl rfl) (fun _ h9 => h9) hv hdg kk
theorem zk_obj_i : Cond.instanceMethod objectInit ∈ lw_tbl := by decide +kernel
theorem zk_obj_c : Cond.code objectInit ⟨#[0xb1]⟩ 1 none ∈ lw_tbl := by decide +kernel
theorem zr_objInit (hx : p.tables.exec = Jvm.exec) (hb : c.code = cc) {own : String} (hown : s.vm.findClass own = some m.cls) (zw : zz_W s) {index a : Nat} (hl : Cond.methodLink own index objectInit ∈ lw_tbl) (hml : c.maxLocals = ls.size) (hframes : 1 ≤ R.frames) (hlocals : (rest.map fun v => v.category).sum + 12 ≤ R.locals) (hdg : decode cc pc = .ok (.invokespecial index, 3))
    (kk : W p l e R s m args below meth c H locs cells slots Q (F0 m (pc + 3) ls rest)) : W p l e R s m args below meth c H locs cells slots Q (F0 m pc ls (.ref a :: rest)) :=
  W.objInit hx hb hown (zz_W_use zw hl rfl) (zz_W_use zw zk_obj_i rfl) (zz_W_use zw zk_obj_c rfl) rfl hml.symm rfl hdg hframes (by show 2 * 0 + _ + 12 ≤ _; omega) kk
theorem zr_start {y : MethodName} {bytes : ByteArray} {maxL : Nat} {rm : Room} {av : List Value} {sz : Nat} {after : (Nat → Nat) → va_W} {mc ms : Nat} (hy : plainName y.cls = true) (hyn : y.name = "<init>") (hlen : (lg_sl av).length ≤ maxL)
    (body : ∀ (p : Program) (e : Env) (s : State) (m : MethodId) (below : List Frame) (meth : Method) (c : Code) (ls : Array Slot), zz_X p s m meth c bytes y.cls none maxL → meth.name = "<init>" → (∀ q, s.heap.size ≤ q → va_A ws sz q) → zr_B D ca (va_A ws sz) s.heap s ws s.heap [] → lv_has ls maxL (lv_args 0 av) → W p l e rm s m av.toArray below meth c s.heap [] 0 0 (MQ below (zr_Q D ca (va_A ws sz) after) av.toArray s mc ms (va_A ws sz)) (F0 m 0 ls [])) :
    Met l y [.code y bytes maxL none] rm (zr_Pre D ca ws av sz) (zr_Q D ca (va_A ws sz) after) mc ms (va_A ws sz) := by
  refine Met.ofW (cc := bytes) (maxL := maxL) (ret := none) hy rfl ?_
  intro p e s m args below meth c s₁ B hml hv
  obtain ⟨rfl, hsz, zw, hK, hP, hD0⟩ := hv
  have hX : zz_X p s m meth c bytes y.cls none maxL := ⟨B.exec, B.bytes, hml, findClass_of_methodNamed B.named, zw, B.returns, B.notSynchronized⟩
  have hin : meth.name = "<init>" := by rw [← hyn]; exact (name_of_methodNamed B.named B.method).1
  have hD := hD0.self (sz := sz)
  have hA : ∀ q, s.heap.size ≤ q → va_A ws sz q := fun q h => Or.inr (by rw [← hsz]; exact h)
  have hl := lv_entry av (n := maxL) hlen
  rw [lg_entry_eq]
  exact body p e s m below meth c _ hX hin hA ⟨hK, hP, hD, va_S.rf⟩ hl
theorem zr_ret (hx : p.tables.exec = Jvm.exec) (hb : c.code = cc) (hr : meth.sig.returnType = none) (hlocks : meth.locks = false) {after : (Nat → Nat) → va_W} {u : Nat → Nat} (hB : zr_B D ca A s.heap s ws H locs) (hw : ws = after u) (hdg : decode cc pc = .ok (.return_, 1)) :
    W p l e R s m args below meth c H locs cells slots (MQ below (zr_Q D ca A after) args s cells slots A) (F0 m pc ls []) := by
  obtain ⟨hK, hP1, hD, hS⟩ := hB
  subst hw
  exact W.vret hx hb hr (fun t ht hW => ⟨⟨u, rfl, trivial, va_K.moved hW.alike hK, by rw [ht]; exact hP1, hD⟩, hS.F ht⟩) hS.2.2 hdg hlocks
def zr_MI (own : String) (index : Nat) (y : MethodName) (bytes : ByteArray) (maxL : Nat) : Prop := zz_MC own index y bytes maxL none 0 ∧ Cond.instanceMethod y ∈ lw_tbl ∧ y.name = "<init>"
theorem zr_blind {av : List Value} {sz : Nat} : FrameBlind (zr_Pre D ca ws av sz) := by
  intro v U g mk q
  obtain ⟨q0, q1, q2, q3, q4, q5⟩ := q
  exact ⟨q0, q1, zz_W_call q2, va_K.moved (u := U) (U := U.calling g mk v) (Vm.Alike.refl U.vm) q3, q4, q5⟩
theorem zr_callI (hx : p.tables.exec = Jvm.exec) (hb : c.code = cc) {nL : Nat} (hml : c.maxLocals = nL) {own : String} (hown : s.vm.findClass own = some m.cls) (zw : zz_W s) {pre wc : va_W} (hB : zr_B D ca A H0 s (pre ++ wc) H locs) (hA : ∀ q, H0.size ≤ q → A q) {index maxL mc ms a : Nat} {y : MethodName} {bytes : ByteArray} {rm : Room} {after : (Nat → Nat) → va_W}
    (M : zr_MI own index y bytes maxL) (hM : Met l y [.code y bytes maxL none] rm (zr_Pre D ca wc [.ref a] H.size) (zr_Q D ca (va_A wc H.size) after) mc ms (va_A wc H.size)) (hls : ls.size = nL) (hW : (rest.map fun v => v.category).sum ≤ 8) (hrc : rm.cells = mc) (hrs : rm.slots = ms) (hR : rm.frames + 1 ≤ R.frames ∧ 8 + (maxL + 11) + rm.locals ≤ R.locals) (hdg : decode cc pc = .ok (.invokespecial index, 3)) (hf : cells + mc ≤ R.cells ∧ slots + ms ≤ R.slots)
    (kk : ∀ (u : Nat → Nat) (H : Heap) (locs : List Loc), zr_B D ca A H0 s (pre ++ after u) H locs → W p l e R s m args below meth c H locs (cells + mc) (slots + ms) Q (F0 m (pc + 3) ls rest)) : W p l e R s m args below meth c H locs cells slots Q (F0 m pc ls (.ref a :: rest)) := by
  obtain ⟨M, hi, hyn⟩ := M
  obtain ⟨hK, hP, hD, hS⟩ := hB
  have hwc : ∀ (k : Nat) (x : Nat × va_E), wc[k]? = some x → (pre ++ wc)[pre.length + k]? = some x := fun k x hx => by rw [List.getElem?_append_right (Nat.le_add_right _ _), Nat.add_sub_cancel_left]; exact hx
  have hPc : va_P D vwCl wc H := fun k x hx => hP _ x (hwc k x hx)
  have hDc : va_D (fun _ => True) wc := ⟨fun i j x y hx hy hxy => by have := hD.1 _ _ x y (hwc i x hx) (hwc j y hy) hxy; omega, fun _ _ _ => trivial⟩
  have hF : ∀ q, va_A wc H.size q → A q := by
    intro q h
    rcases h with ⟨k, e, h⟩ | h
    · exact hD.2 _ (q, e) (hwc k _ h)
    · exact hA q (Nat.le_trans hS.1 h)
  have hpre : PreS s H (zr_Pre D ca wc [.ref a] H.size) (.ref a :: []) := ⟨zr_blind, fun U hU hW => ⟨rfl, by rw [hU], zz_W_warm hW zw, va_K.moved hW.alike hK, by rw [hU]; exact hPc, hDc⟩⟩
  have hS5 : CallFix p m c cc nL s args [] own := ⟨hx, hb, hml, hown, fun w h => by cases h⟩
  have hrun : va_Run p l e R s m args below meth c H locs cells slots mc ms (F0 m pc ls (.ref a :: rest)) rest (zr_Q D ca (va_A wc H.size) after (Value.ref a :: []).toArray) (va_A wc H.size) := by
    rcases M.2.2.1 with hl | ⟨host, hl⟩
    · exact va_runI (g := F0 m pc ls (.ref a :: rest)) (n := 0) (As := []) hS5 hM ⟨⟨hrc, hrs, hR.1, hR.2, zz_mc_w zw M, List.mem_singleton.mpr rfl, zz_W_use zw M.1 rfl, zz_W_use zw M.2.1 rfl, M.2.2.2.1, zz_mc_n M, zz_W_use zw hl rfl⟩, hyn, zz_W_use zw hi rfl⟩ hpre rfl rfl hls rfl (lv_room hW) hdg hf
    · exact va_runIN (g := F0 m pc ls (.ref a :: rest)) (n := 0) (As := []) (host := host) hS5 hM ⟨⟨⟨hrc, hrs, hR.1, hR.2, zz_mc_w zw M, List.mem_singleton.mpr rfl⟩, zz_W_use zw M.1 rfl, zz_W_use zw M.2.1 rfl, M.2.2.2.1, zz_mc_n M, zz_W_use zw hl rfl⟩, hyn, zz_W_use zw hi rfl⟩ hpre rfl rfl hls rfl (lv_room hW) hdg hf
  refine va_callv hrun hS (fun q _ h => hF q h) hF (fun u t H1 locs1 ht hvm _ hb _ hk1 hS1 => ?_)
  obtain ⟨b1, b2, b3⟩ := hb
  rw [ht] at b2
  obtain ⟨h1, h2⟩ := zr_frame hP hD hk1 hF b2 b3
  exact kk u H1 locs1 ⟨hK, h1, h2, hS1⟩
end ZC
theorem zz_down {i n : Nat} (h : i < n) (hn : n < 2 ^ 31) : n - (nI i + (1 : Int32)).toNatClampNeg < n - (nI i).toNatClampNeg := by
  rw [show nI i + (1 : Int32) = nI (i + 1) from nI_1 i, nI_clamp (by omega), nI_clamp (by omega)]; omega
/-! Arrays.fill as one step -/
def zz_fill {α : Type} (I : Nat → Nat → α) (k0 n : Nat) (x : α) : Nat → Nat → α := fun k j => if k = k0 ∧ j < n then x else I k j
theorem zz_fill_up {α : Type} (I : Nat → Nat → α) (k0 i : Nat) (x : α) : zz_up (zz_fill I k0 i x) k0 i x = zz_fill I k0 (i + 1) x := by
  funext k j
  unfold zz_up zz_fill
  by_cases hk : k = k0
  · by_cases hj : j = i
    · simp [hk, hj]
    · have h1 : (j < i + 1) ↔ (j < i) := by omega
      simp [hk, hj, h1]
  · simp [hk]
theorem zz_fill_0 {α : Type} (I : Nat → Nat → α) (k0 : Nat) (x : α) : zz_fill I k0 0 x = I := by
  funext k j
  simp [zz_fill]
theorem zs_fill {k0 n0 : Nat} {x1 : Int32} {P : zz_I → zz_L → Prop} {I : zz_I} {L : zz_L} (hn : n0 < 2 ^ 31) (h : P (zz_fill I k0 n0 x1) L) : zp_J7_fill_53178 k0 n0 x1 P I L := by
  unfold zp_J7_fill_53178
  intro v4 ev4
  subst ev4
  refine ⟨fun y I8 L8 => ∃ i, i ≤ n0 ∧ y = nI i ∧ I8 = zz_fill I k0 i x1 ∧ L8 = L, fun y _ _ => n0 - y.toNatClampNeg, ⟨0, Nat.zero_le _, rfl, (zz_fill_0 I k0 x1).symm, rfl⟩, ?_⟩
  intro y2 I8 L8 hi
  obtain ⟨i, hin, e1, e2, e3⟩ := hi
  subst e1; subst e2; subst e3
  unfold zp_J7_fill_53178_5b
  refine ⟨fun c => ?_, fun c => ?_⟩
  · have : n0 ≤ i := (nI_leI hn (by omega)).mp c
    have e : i = n0 := by omega
    rw [e]; exact h
  · have hlt : i < n0 := by
      rcases Nat.lt_or_ge i n0 with q | q
      · exact q
      · exact absurd (nI_le q (by omega)) c
    refine ⟨vp_in_nI hlt hn, ?_⟩
    intro I13 eI v14 ev
    subst eI; subst ev
    refine ⟨⟨i + 1, hlt, nI_1 i, ?_, rfl⟩, ?_⟩
    · rw [nI_clamp (by omega)]; exact zz_fill_up I k0 i x1
    · exact zz_down hlt hn
theorem zs_fillL {k0 n0 : Nat} {x1 : Int64} {P : zz_I → zz_L → Prop} {I : zz_I} {L : zz_L} (hn : n0 < 2 ^ 31) (h : P I (zz_fill L k0 n0 x1)) : zp_J7_fill_d0a16 k0 n0 x1 P I L := by
  unfold zp_J7_fill_d0a16
  intro v4 ev4
  subst ev4
  refine ⟨fun y I8 L8 => ∃ i, i ≤ n0 ∧ y = nI i ∧ L8 = zz_fill L k0 i x1 ∧ I8 = I, fun y _ _ => n0 - y.toNatClampNeg, ⟨0, Nat.zero_le _, rfl, (zz_fill_0 L k0 x1).symm, rfl⟩, ?_⟩
  intro y2 I8 L8 hi
  obtain ⟨i, hin, e1, e2, e3⟩ := hi
  subst e1; subst e2; subst e3
  unfold zp_J7_fill_d0a16_6b
  refine ⟨fun c => ?_, fun c => ?_⟩
  · have : n0 ≤ i := (nI_leI hn (by omega)).mp c
    have e : i = n0 := by omega
    rw [e] at *; exact h
  · have hlt : i < n0 := by
      rcases Nat.lt_or_ge i n0 with q | q
      · exact q
      · exact absurd (nI_le q (by omega)) c
    refine ⟨vp_in_nI hlt hn, ?_⟩
    intro I13 eI v14 ev
    subst eI; subst ev
    refine ⟨⟨i + 1, hlt, nI_1 i, ?_, rfl⟩, ?_⟩
    · rw [nI_clamp (by omega)]; exact zz_fill_up L k0 i x1
    · exact zz_down hlt hn
