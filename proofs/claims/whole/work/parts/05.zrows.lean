/-! one row an instruction, over the bundle -/
theorem zz_hts {args : Array Value} {s : State} (h : zz_W s) : ∀ w ∈ lw_tbl.filter zz_good, w.before args s = true := fun w hw => zz_W_use h (List.mem_filter.mp hw).1 (List.mem_filter.mp hw).2
/-- a field that can be read: entry 'index' of 'own' is field j of class ci -/
def zz_FL (own : String) (index ci j : Nat) : Prop :=
  ∃ (C : String) (T : u_T) (N : Nat), vwCl[ci]? = some (C, T, N) ∧ j < N ∧ (∀ w ∈ u_ws C T N, w ∈ lw_tbl.filter zz_good) ∧ (Cond.fieldLink own index (T j).1 (T j).2.1 (T j).2.2.1 ∈ lw_tbl ∨ ∃ host : String, Cond.fieldLinkNest own index (T j).1 (T j).2.1 (T j).2.2.1 host ∈ lw_tbl)
/-- a field that can be written, of type ty -/
def zz_FP (own : String) (index ci j : Nat) (ty : FieldType) : Prop :=
  ∃ (C : String) (T : u_T) (N : Nat) (ty0 : Nat → FieldType), vwCl[ci]? = some (C, T, N) ∧ j < N ∧ (∀ w ∈ u_ws C T N, w ∈ lw_tbl.filter zz_good) ∧ (Cond.fieldLink own index (T j).1 (T j).2.1 (T j).2.2.1 ∈ lw_tbl ∨ ∃ host : String, Cond.fieldLinkNest own index (T j).1 (T j).2.1 (T j).2.2.1 host ∈ lw_tbl) ∧ (∀ k, k < N → parseFieldDescriptor (T k).2.2.1 = some (ty0 k)) ∧ (∀ a, a < N → ∀ b, b < N → a ≠ b → (T a).2.1 ≠ (T b).2.1) ∧ (T j).2.2.2 = false ∧ parseFieldDescriptor (T j).2.2.1 = some ty
section ZR
variable {p : Program} {l : Launch} {e : Env} {R : Room} {s : State} {m : MethodId} {args : Array Value} {below : List Frame} {meth : Method} {c : Code} {H : Heap} {locs : List Loc} {cells slots : Nat} {Q : State → Prop}
variable {cc : ByteArray} {pc : Nat} {ls : Array Slot} {rest : List Value} {D : va_G} {A : Nat → Prop} {H0 : Heap} {ca : Nat → ClassId} {ds : List zz_D} {a : Nat → Nat} {I : zz_I} {L : zz_L}
theorem zz_getv (hx : p.tables.exec = Jvm.exec) (hb : c.code = cc) {own : String} (hown : s.vm.findClass own = some m.cls) (zw : zz_W s) (hB : zz_B D ca ds A H0 s a I L H locs) {index ci j k : Nat} {fs : List (Nat ⊕ Bool)} {f : Nat ⊕ Bool} {v : Value} (F : zz_FL own index ci j) (hd : ds[k]? = some (.inr (ci, fs))) (hf : fs[j]? = some f) (hv : zz_val a I L k j f = v) (hdg : decode cc pc = .ok (.getfield index, 3))
    (kk : W p l e R s m args below meth c H locs cells slots Q (F0 m (pc + 3) ls (v :: rest))) : W p l e R s m args below meth c H locs cells slots Q (F0 m pc ls (.ref (a k) :: rest)) := by
  obtain ⟨hK, hP, hD, hS⟩ := hB
  obtain ⟨C, T, N, hc, hj, hin, hl⟩ := F
  have he : (zz_cells ca ds a I L)[k]? = some (a k, .inr (ci, fs.mapIdx (zz_val a I L k))) := zz_get hd
  have hfv : (fs.mapIdx (zz_val a I L k))[j]? = some v := by rw [List.getElem?_mapIdx, hf, ← hv]; rfl
  rcases hl with hl | ⟨host, hl⟩
  · exact va_get (D := D) (ci := ci) (v := v) (C := C) (T := T) (N := N) hx hb (zz_hts zw) hin hown hK hP k he hc j hj (zz_W_use zw hl rfl) (fun _ h9 => h9) hfv hdg kk
  · exact va_getN (D := D) (ci := ci) (v := v) (C := C) (T := T) (N := N) hx hb (zz_hts zw) hin hown hK hP k he hc j hj (zz_W_use zw hl rfl) (fun _ h9 => h9) hfv hdg kk
theorem zz_geti (hx : p.tables.exec = Jvm.exec) (hb : c.code = cc) {own : String} (hown : s.vm.findClass own = some m.cls) (zw : zz_W s) (hB : zz_B D ca ds A H0 s a I L H locs) {index ci j k : Nat} {fs : List (Nat ⊕ Bool)} (F : zz_FL own index ci j) (hd : ds[k]? = some (.inr (ci, fs))) (hf : fs[j]? = some (.inr false)) (hdg : decode cc pc = .ok (.getfield index, 3))
    (kk : W p l e R s m args below meth c H locs cells slots Q (F0 m (pc + 3) ls (.int (I k j) :: rest))) : W p l e R s m args below meth c H locs cells slots Q (F0 m pc ls (.ref (a k) :: rest)) := zz_getv hx hb hown zw hB F hd hf rfl hdg kk
theorem zz_getl (hx : p.tables.exec = Jvm.exec) (hb : c.code = cc) {own : String} (hown : s.vm.findClass own = some m.cls) (zw : zz_W s) (hB : zz_B D ca ds A H0 s a I L H locs) {index ci j k : Nat} {fs : List (Nat ⊕ Bool)} (F : zz_FL own index ci j) (hd : ds[k]? = some (.inr (ci, fs))) (hf : fs[j]? = some (.inr true)) (hdg : decode cc pc = .ok (.getfield index, 3))
    (kk : W p l e R s m args below meth c H locs cells slots Q (F0 m (pc + 3) ls (.long (L k j) :: rest))) : W p l e R s m args below meth c H locs cells slots Q (F0 m pc ls (.ref (a k) :: rest)) := zz_getv hx hb hown zw hB F hd hf rfl hdg kk
theorem zz_getr (hx : p.tables.exec = Jvm.exec) (hb : c.code = cc) {own : String} (hown : s.vm.findClass own = some m.cls) (zw : zz_W s) (hB : zz_B D ca ds A H0 s a I L H locs) {index ci j k k' d : Nat} {fs : List (Nat ⊕ Bool)} (F : zz_FL own index ci j) (hd : ds[k]? = some (.inr (ci, fs))) (hf : fs[j]? = some (.inl d)) (hk : k + d = k') (hdg : decode cc pc = .ok (.getfield index, 3))
    (kk : W p l e R s m args below meth c H locs cells slots Q (F0 m (pc + 3) ls (.ref (a k') :: rest))) : W p l e R s m args below meth c H locs cells slots Q (F0 m pc ls (.ref (a k) :: rest)) := zz_getv hx hb hown zw hB F hd hf (by rw [← hk]; rfl) hdg kk
theorem zz_mapIdx_set {fs : List (Nat ⊕ Bool)} {f g : Nat → Nat ⊕ Bool → Value} {j : Nat} {q : Nat ⊕ Bool} (hf : fs[j]? = some q) (h : ∀ i z, i ≠ j → g i z = f i z) : (fs.mapIdx f).set j (g j q) = fs.mapIdx g := by
  have hk : j < (fs.mapIdx f).length := by rw [List.length_mapIdx]; exact (List.getElem?_eq_some_iff.mp hf).1
  refine List.ext_getElem? (fun i => ?_)
  by_cases hj : j = i
  · subst hj
    refine (List.getElem?_set_self hk).trans ?_
    rw [List.getElem?_mapIdx, hf]
    rfl
  · refine (List.getElem?_set_ne hj).trans ?_
    rw [List.getElem?_mapIdx, List.getElem?_mapIdx]
    refine congrArg (fun f => (fs[i]?).map f) ?_
    funext z
    exact (h i z (fun q => hj q.symm)).symm
theorem zz_putv (hx : p.tables.exec = Jvm.exec) (hb : c.code = cc) {own : String} (hown : s.vm.findClass own = some m.cls) (zw : zz_W s) (hB : zz_B D ca ds A H0 s a I L H locs) {index ci j k : Nat} {ty : FieldType} {fs : List (Nat ⊕ Bool)} {f : Nat ⊕ Bool} {v : Value} {I' : zz_I} {L' : zz_L} (F : zz_FP own index ci j ty) (hd : ds[k]? = some (.inr (ci, fs))) (hf : fs[j]? = some f) (hv : zz_val a I' L' k j f = v) (hI : ∀ q, q ≠ k → I' q = I q) (hL : ∀ q, q ≠ k → L' q = L q) (hz : ∀ i z, i ≠ j → zz_val a I' L' k i z = zz_val a I L k i z) (hn : narrow ty v = v) (hfit : fits ty v = true) (hdg : decode cc pc = .ok (.putfield index, 3))
    (kk : ∀ (H : Heap) (locs : List Loc), zz_B D ca ds A H0 s a I' L' H locs → W p l e R s m args below meth c H locs cells slots Q (F0 m (pc + 3) ls rest)) : W p l e R s m args below meth c H locs cells slots Q (F0 m pc ls (v :: .ref (a k) :: rest)) := by
  obtain ⟨hK, hP, hD, hS⟩ := hB
  obtain ⟨C, T, N, ty0, hc, hj, hin, hl, hty, hnm, hfin, hpd⟩ := F
  have he : (zz_cells ca ds a I L)[k]? = some (a k, .inr (ci, fs.mapIdx (zz_val a I L k))) := zz_get hd
  have hlen : j < (fs.mapIdx (zz_val a I L k)).length := by rw [List.length_mapIdx]; exact (List.getElem?_eq_some_iff.mp hf).1
  have hset : (zz_cells ca ds a I L).set k (a k, .inr (ci, (fs.mapIdx (zz_val a I L k)).set j v)) = zz_cells ca ds a I' L' := by
    refine zz_set hd ?_ hI hL
    show Sum.inr (ci, (fs.mapIdx (zz_val a I L k)).set j v) = Sum.inr (ci, fs.mapIdx (zz_val a I' L' k))
    rw [← hv, zz_mapIdx_set hf hz]
  have kk' : ∀ (H1 : Heap) (locs1 : List Loc), va_P D vwCl ((zz_cells ca ds a I L).set k (a k, .inr (ci, (fs.mapIdx (zz_val a I L k)).set j v))) H1 → va_D A ((zz_cells ca ds a I L).set k (a k, .inr (ci, (fs.mapIdx (zz_val a I L k)).set j v))) → va_S A H0 H1 locs1 → W p l e R s m args below meth c H1 locs1 cells slots Q (F0 m (pc + 3) ls rest) := by
    intro H1 locs1 h1 h2 h3
    rw [hset] at h1 h2
    exact kk H1 locs1 ⟨hK, h1, h2, h3⟩
  rcases hl with hl | ⟨host, hl⟩
  · exact va_put (D := D) (ci := ci) (v := v) (ty := ty) (C := C) (T := T) (N := N) hx hb (zz_hts zw) hin ty0 hty hnm hown hK hP hD hS k he hc j hj (zz_W_use zw hl rfl) (fun _ h9 => h9) hfin hpd hn hfit hlen hdg kk'
  · exact va_putN (D := D) (ci := ci) (v := v) (ty := ty) (C := C) (T := T) (N := N) hx hb (zz_hts zw) hin ty0 hty hnm hown hK hP hD hS k he hc j hj (zz_W_use zw hl rfl) (fun _ h9 => h9) hfin hpd hn hfit hlen hdg kk'
theorem zz_val_upi {a : Nat → Nat} {I : zz_I} {L : zz_L} {k j : Nat} {x : Int32} : ∀ i z, i ≠ j → zz_val a (zz_up I k j x) L k i z = zz_val a I L k i z := by
  intro i z hi
  cases z with
  | inl d => rfl
  | inr b => cases b <;> simp [zz_val, zz_up, hi]
theorem zz_val_upl {a : Nat → Nat} {I : zz_I} {L : zz_L} {k j : Nat} {x : Int64} : ∀ i z, i ≠ j → zz_val a I (zz_up L k j x) k i z = zz_val a I L k i z := by
  intro i z hi
  cases z with
  | inl d => rfl
  | inr b => cases b <;> simp [zz_val, zz_up, hi]
theorem zz_puti (hx : p.tables.exec = Jvm.exec) (hb : c.code = cc) {own : String} (hown : s.vm.findClass own = some m.cls) (zw : zz_W s) (hB : zz_B D ca ds A H0 s a I L H locs) {index ci j k : Nat} {fs : List (Nat ⊕ Bool)} {x : Int32} (F : zz_FP own index ci j .int) (hd : ds[k]? = some (.inr (ci, fs))) (hf : fs[j]? = some (.inr false)) (hdg : decode cc pc = .ok (.putfield index, 3))
    (kk : ∀ (H : Heap) (locs : List Loc), zz_B D ca ds A H0 s a (zz_up I k j x) L H locs → W p l e R s m args below meth c H locs cells slots Q (F0 m (pc + 3) ls rest)) : W p l e R s m args below meth c H locs cells slots Q (F0 m pc ls (.int x :: .ref (a k) :: rest)) :=
  zz_putv hx hb hown zw hB F hd hf (by simp [zz_val, zz_up]) (fun q hq => zz_up_ne I k j x q hq) (fun _ _ => rfl) zz_val_upi rfl rfl hdg kk
theorem zz_putl (hx : p.tables.exec = Jvm.exec) (hb : c.code = cc) {own : String} (hown : s.vm.findClass own = some m.cls) (zw : zz_W s) (hB : zz_B D ca ds A H0 s a I L H locs) {index ci j k : Nat} {fs : List (Nat ⊕ Bool)} {x : Int64} (F : zz_FP own index ci j .long) (hd : ds[k]? = some (.inr (ci, fs))) (hf : fs[j]? = some (.inr true)) (hdg : decode cc pc = .ok (.putfield index, 3))
    (kk : ∀ (H : Heap) (locs : List Loc), zz_B D ca ds A H0 s a I (zz_up L k j x) H locs → W p l e R s m args below meth c H locs cells slots Q (F0 m (pc + 3) ls rest)) : W p l e R s m args below meth c H locs cells slots Q (F0 m pc ls (.long x :: .ref (a k) :: rest)) :=
  zz_putv hx hb hown zw hB F hd hf (by simp [zz_val, zz_up]) (fun _ _ => rfl) (fun q hq => zz_up_ne L k j x q hq) zz_val_upl rfl rfl hdg kk
def zz_bool (x : Int32) : Prop := x = 0 ∨ x = 1
theorem zz_bool0 : zz_bool 0 := Or.inl rfl
theorem zz_bool1 : zz_bool 1 := Or.inr rfl
theorem zz_putz (hx : p.tables.exec = Jvm.exec) (hb : c.code = cc) {own : String} (hown : s.vm.findClass own = some m.cls) (zw : zz_W s) (hB : zz_B D ca ds A H0 s a I L H locs) {index ci j k : Nat} {fs : List (Nat ⊕ Bool)} {x : Int32} (F : zz_FP own index ci j .boolean) (hz : zz_bool x) (hd : ds[k]? = some (.inr (ci, fs))) (hf : fs[j]? = some (.inr false)) (hdg : decode cc pc = .ok (.putfield index, 3))
    (kk : ∀ (H : Heap) (locs : List Loc), zz_B D ca ds A H0 s a (zz_up I k j x) L H locs → W p l e R s m args below meth c H locs cells slots Q (F0 m (pc + 3) ls rest)) : W p l e R s m args below meth c H locs cells slots Q (F0 m pc ls (.int x :: .ref (a k) :: rest)) :=
  zz_putv hx hb hown zw hB F hd hf (by simp [zz_val, zz_up]) (fun q hq => zz_up_ne I k j x q hq) (fun _ _ => rfl) zz_val_upi (by rcases hz with rfl | rfl <;> decide) (by rcases hz with rfl | rfl <;> decide) hdg kk
theorem zz_iald (hx : p.tables.exec = Jvm.exec) (hb : c.code = cc) (hB : zz_B D ca ds A H0 s a I L H locs) {k n : Nat} (hd : ds[k]? = some (.inl (0, n))) {i : Int32} (hin : vp_in i n) (hdg : decode cc pc = .ok (.iaload, 1))
    (kk : W p l e R s m args below meth c H locs cells slots Q (F0 m (pc + 1) ls (.int (I k i.toNatClampNeg) :: rest))) : W p l e R s m args below meth c H locs cells slots Q (F0 m pc ls (.int i :: .ref (a k) :: rest)) := by
  obtain ⟨hK, hP, hD, hS⟩ := hB
  exact va_iald hx hb hK hP k 0 (cA := ca 0) (n := n) (f := I k) (zz_get hd) rfl hin hdg kk
theorem zz_zald (hx : p.tables.exec = Jvm.exec) (hb : c.code = cc) (hB : zz_B D ca ds A H0 s a I L H locs) {k n : Nat} (hd : ds[k]? = some (.inl (1, n))) {i : Int32} (hin : vp_in i n) (hdg : decode cc pc = .ok (.baload, 1))
    (kk : W p l e R s m args below meth c H locs cells slots Q (F0 m (pc + 1) ls (.int (I k i.toNatClampNeg) :: rest))) : W p l e R s m args below meth c H locs cells slots Q (F0 m pc ls (.int i :: .ref (a k) :: rest)) := by
  obtain ⟨hK, hP, hD, hS⟩ := hB
  exact va_zald hx hb hK hP k 1 (cA := ca 1) (n := n) (f := I k) (zz_get hd) rfl hin hdg kk
theorem zz_lald (hx : p.tables.exec = Jvm.exec) (hb : c.code = cc) (hB : zz_B D ca ds A H0 s a I L H locs) {k n : Nat} (hd : ds[k]? = some (.inl (2, n))) {i : Int32} (hin : vp_in i n) (hdg : decode cc pc = .ok (.laload, 1))
    (kk : W p l e R s m args below meth c H locs cells slots Q (F0 m (pc + 1) ls (.long (L k i.toNatClampNeg) :: rest))) : W p l e R s m args below meth c H locs cells slots Q (F0 m pc ls (.int i :: .ref (a k) :: rest)) := by
  obtain ⟨hK, hP, hD, hS⟩ := hB
  exact va_lald hx hb hK hP k 2 (cA := ca 2) (n := n) (f := L k) (zz_get hd) rfl hin hdg kk
theorem zz_lald3 (hx : p.tables.exec = Jvm.exec) (hb : c.code = cc) (hB : zz_B D ca ds A H0 s a I L H locs) {k n : Nat} (hd : ds[k]? = some (.inl (3, n))) {i : Int32} (hin : vp_in i (I k 0).toNatClampNeg) (hdg : decode cc pc = .ok (.laload, 1))
    (kk : W p l e R s m args below meth c H locs cells slots Q (F0 m (pc + 1) ls (.long (L k i.toNatClampNeg) :: rest))) : W p l e R s m args below meth c H locs cells slots Q (F0 m pc ls (.int i :: .ref (a k) :: rest)) := by
  obtain ⟨hK, hP, hD, hS⟩ := hB
  exact va_lald hx hb hK hP k 2 (cA := ca 2) (n := (I k 0).toNatClampNeg) (f := L k) (zz_get hd) rfl hin hdg kk
theorem zz_iast (hx : p.tables.exec = Jvm.exec) (hb : c.code = cc) (hB : zz_B D ca ds A H0 s a I L H locs) {k n : Nat} (hd : ds[k]? = some (.inl (0, n))) {i x : Int32} (hin : vp_in i n) (hdg : decode cc pc = .ok (.iastore, 1))
    (kk : ∀ (H : Heap) (locs : List Loc), zz_B D ca ds A H0 s a (zz_up I k i.toNatClampNeg x) L H locs → W p l e R s m args below meth c H locs cells slots Q (F0 m (pc + 1) ls rest)) : W p l e R s m args below meth c H locs cells slots Q (F0 m pc ls (.int x :: .int i :: .ref (a k) :: rest)) := by
  obtain ⟨hK, hP, hD, hS⟩ := hB
  have hset : (zz_cells ca ds a I L).set k (a k, .inl (ca 0, n, .inl (upd (I k) i.toNatClampNeg x))) = zz_cells ca ds a (zz_up I k i.toNatClampNeg x) L := by
    refine zz_set hd ?_ (fun q hq => zz_up_ne I k _ x q hq) (fun _ _ => rfl)
    show _ = (Sum.inl (ca 0, n, .inl (zz_up I k i.toNatClampNeg x k)) : va_E)
    rw [zz_up_at]; rfl
  refine va_iast hx hb hK hP hD hS k 0 (cA := ca 0) (n := n) (f := I k) (zz_get hd) rfl hin hdg (fun H1 locs1 h1 h2 h3 => ?_)
  rw [hset] at h1 h2
  exact kk H1 locs1 ⟨hK, h1, h2, h3⟩
theorem zz_zast (hx : p.tables.exec = Jvm.exec) (hb : c.code = cc) (hB : zz_B D ca ds A H0 s a I L H locs) {k n : Nat} (hd : ds[k]? = some (.inl (1, n))) {i x : Int32} (hin : vp_in i n) (hdg : decode cc pc = .ok (.bastore, 1))
    (kk : ∀ (H : Heap) (locs : List Loc), zz_B D ca ds A H0 s a (zz_up I k i.toNatClampNeg (vp_nar .boolean x)) L H locs → W p l e R s m args below meth c H locs cells slots Q (F0 m (pc + 1) ls rest)) : W p l e R s m args below meth c H locs cells slots Q (F0 m pc ls (.int x :: .int i :: .ref (a k) :: rest)) := by
  obtain ⟨hK, hP, hD, hS⟩ := hB
  have hset : (zz_cells ca ds a I L).set k (a k, .inl (ca 1, n, .inl (upd (I k) i.toNatClampNeg (vp_nar .boolean x)))) = zz_cells ca ds a (zz_up I k i.toNatClampNeg (vp_nar .boolean x)) L := by
    refine zz_set hd ?_ (fun q hq => zz_up_ne I k _ _ q hq) (fun _ _ => rfl)
    show _ = (Sum.inl (ca 1, n, .inl (zz_up I k i.toNatClampNeg (vp_nar .boolean x) k)) : va_E)
    rw [zz_up_at]; rfl
  refine va_zast hx hb hK hP hD hS k 1 (cA := ca 1) (n := n) (f := I k) (zz_get hd) rfl hin hdg (fun H1 locs1 h1 h2 h3 => ?_)
  rw [hset] at h1 h2
  exact kk H1 locs1 ⟨hK, h1, h2, h3⟩
theorem zz_last (hx : p.tables.exec = Jvm.exec) (hb : c.code = cc) (hB : zz_B D ca ds A H0 s a I L H locs) {k n : Nat} (hd : ds[k]? = some (.inl (2, n))) {i : Int32} {x : Int64} (hin : vp_in i n) (hdg : decode cc pc = .ok (.lastore, 1))
    (kk : ∀ (H : Heap) (locs : List Loc), zz_B D ca ds A H0 s a I (zz_up L k i.toNatClampNeg x) H locs → W p l e R s m args below meth c H locs cells slots Q (F0 m (pc + 1) ls rest)) : W p l e R s m args below meth c H locs cells slots Q (F0 m pc ls (.long x :: .int i :: .ref (a k) :: rest)) := by
  obtain ⟨hK, hP, hD, hS⟩ := hB
  have hset : (zz_cells ca ds a I L).set k (a k, .inl (ca 2, n, .inr (.inl (vp_updL (L k) i.toNatClampNeg x)))) = zz_cells ca ds a I (zz_up L k i.toNatClampNeg x) := by
    refine zz_set hd ?_ (fun _ _ => rfl) (fun q hq => zz_up_ne L k _ x q hq)
    show _ = (Sum.inl (ca 2, n, .inr (.inl (zz_up L k i.toNatClampNeg x k))) : va_E)
    rw [zz_up_at]; rfl
  refine va_last hx hb hK hP hD hS k 2 (cA := ca 2) (n := n) (f := L k) (zz_get hd) rfl hin hdg (fun H1 locs1 h1 h2 h3 => ?_)
  rw [hset] at h1 h2
  exact kk H1 locs1 ⟨hK, h1, h2, h3⟩
theorem zz_last3 (hx : p.tables.exec = Jvm.exec) (hb : c.code = cc) (hB : zz_B D ca ds A H0 s a I L H locs) {k n : Nat} (hd : ds[k]? = some (.inl (3, n))) {i : Int32} {x : Int64} (hin : vp_in i (I k 0).toNatClampNeg) (hdg : decode cc pc = .ok (.lastore, 1))
    (kk : ∀ (H : Heap) (locs : List Loc), zz_B D ca ds A H0 s a I (zz_up L k i.toNatClampNeg x) H locs → W p l e R s m args below meth c H locs cells slots Q (F0 m (pc + 1) ls rest)) : W p l e R s m args below meth c H locs cells slots Q (F0 m pc ls (.long x :: .int i :: .ref (a k) :: rest)) := by
  obtain ⟨hK, hP, hD, hS⟩ := hB
  have hset : (zz_cells ca ds a I L).set k (a k, .inl (ca 2, (I k 0).toNatClampNeg, .inr (.inl (vp_updL (L k) i.toNatClampNeg x)))) = zz_cells ca ds a I (zz_up L k i.toNatClampNeg x) := by
    refine zz_set hd ?_ (fun _ _ => rfl) (fun q hq => zz_up_ne L k _ x q hq)
    show _ = (Sum.inl (ca 2, (I k 0).toNatClampNeg, .inr (.inl (zz_up L k i.toNatClampNeg x k))) : va_E)
    rw [zz_up_at]; rfl
  refine va_last hx hb hK hP hD hS k 2 (cA := ca 2) (n := (I k 0).toNatClampNeg) (f := L k) (zz_get hd) rfl hin hdg (fun H1 locs1 h1 h2 h3 => ?_)
  rw [hset] at h1 h2
  exact kk H1 locs1 ⟨hK, h1, h2, h3⟩
theorem zz_alen0 (hx : p.tables.exec = Jvm.exec) (hb : c.code = cc) (hB : zz_B D ca ds A H0 s a I L H locs) {k n : Nat} (hd : ds[k]? = some (.inl (0, n))) (hdg : decode cc pc = .ok (.arraylength, 1))
    (kk : W p l e R s m args below meth c H locs cells slots Q (F0 m (pc + 1) ls (.int (nI n) :: rest))) : W p l e R s m args below meth c H locs cells slots Q (F0 m pc ls (.ref (a k) :: rest)) := by
  obtain ⟨hK, hP, hD, hS⟩ := hB
  exact va_alen hx hb hK hP k 0 (cA := ca 0) (x := (n, .inl (I k))) (zz_get hd) (ty := .int) rfl rfl hdg kk
theorem zz_alen2 (hx : p.tables.exec = Jvm.exec) (hb : c.code = cc) (hB : zz_B D ca ds A H0 s a I L H locs) {k n : Nat} (hd : ds[k]? = some (.inl (2, n))) (hdg : decode cc pc = .ok (.arraylength, 1))
    (kk : W p l e R s m args below meth c H locs cells slots Q (F0 m (pc + 1) ls (.int (nI n) :: rest))) : W p l e R s m args below meth c H locs cells slots Q (F0 m pc ls (.ref (a k) :: rest)) := by
  obtain ⟨hK, hP, hD, hS⟩ := hB
  exact va_alen hx hb hK hP k 2 (cA := ca 2) (x := (n, .inr (.inl (L k)))) (zz_get hd) (ty := .long) rfl rfl hdg kk
theorem zz_alen3 (hx : p.tables.exec = Jvm.exec) (hb : c.code = cc) (hB : zz_B D ca ds A H0 s a I L H locs) {k n : Nat} (hd : ds[k]? = some (.inl (3, n))) (hdg : decode cc pc = .ok (.arraylength, 1))
    (kk : W p l e R s m args below meth c H locs cells slots Q (F0 m (pc + 1) ls (.int (nI (I k 0).toNatClampNeg) :: rest))) : W p l e R s m args below meth c H locs cells slots Q (F0 m pc ls (.ref (a k) :: rest)) := by
  obtain ⟨hK, hP, hD, hS⟩ := hB
  exact va_alen hx hb hK hP k 2 (cA := ca 2) (x := ((I k 0).toNatClampNeg, .inr (.inl (L k)))) (zz_get hd) (ty := .long) rfl rfl hdg kk
/-! long compares with the branch behind them -/
theorem zz_lc3 (x y : Int64) : (lg_cmp x y = -1 ∧ x < y) ∨ (lg_cmp x y = 0 ∧ x = y) ∨ (lg_cmp x y = 1 ∧ y < x) := by
  unfold lg_cmp
  by_cases h1 : y < x
  · right; right
    simp [h1]
  · by_cases h2 : x = y
    · right; left
      subst h2; simp
    · left
      have h3 : x ≤ y := Int64.not_lt.mp h1
      simp [h1, h2]
      exact Int64.lt_of_le_of_ne h3 h2
theorem zz_lc_lt (x y : Int64) : lg_cmp x y < 0 ↔ x < y := by
  rcases zz_lc3 x y with ⟨h, g⟩ | ⟨h, g⟩ | ⟨h, g⟩ <;> rw [h]
  · exact ⟨fun _ => g, fun _ => by decide⟩
  · exact ⟨fun q => absurd q (by decide), fun q => absurd q (by rw [g]; exact Int64.lt_irrefl)⟩
  · exact ⟨fun q => absurd q (by decide), fun q => absurd q (Int64.lt_asymm g)⟩
theorem zz_lc_gt (x y : Int64) : 0 < lg_cmp x y ↔ y < x := by
  rcases zz_lc3 x y with ⟨h, g⟩ | ⟨h, g⟩ | ⟨h, g⟩ <;> rw [h]
  · exact ⟨fun q => absurd q (by decide), fun q => absurd q (Int64.lt_asymm g)⟩
  · exact ⟨fun q => absurd q (by decide), fun q => absurd q (by rw [g]; exact Int64.lt_irrefl)⟩
  · exact ⟨fun _ => g, fun _ => by decide⟩
theorem zz_lc_eq (x y : Int64) : lg_cmp x y = 0 ↔ x = y := by
  rcases zz_lc3 x y with ⟨h, g⟩ | ⟨h, g⟩ | ⟨h, g⟩ <;> rw [h]
  · exact ⟨fun q => absurd q (by decide), fun q => absurd q (by intro z; rw [z] at g; exact Int64.lt_irrefl g)⟩
  · exact ⟨fun _ => g, fun _ => rfl⟩
  · exact ⟨fun q => absurd q (by decide), fun q => absurd q (by intro z; rw [z] at g; exact Int64.lt_irrefl g)⟩
theorem zz_lc_le (x y : Int64) : lg_cmp x y ≤ 0 ↔ x ≤ y := by
  rw [← Int32.not_lt, zz_lc_gt, Int64.not_lt]
theorem zz_lc_ge (x y : Int64) : 0 ≤ lg_cmp x y ↔ y ≤ x := by
  rw [← Int32.not_lt, zz_lc_lt, Int64.not_lt]
theorem zz_l_lt (hx : p.tables.exec = Jvm.exec) (hb : c.code = cc) {x y : Int64} {off : Int} {tgt : Nat} (hdg : decode cc pc = .ok (.lcmp, 1)) (hdg2 : decode cc (pc + 1) = .ok (.ifCond .lt off, 3)) (ht : ((pc + 1 : Nat) : Int) + off = (tgt : Int))
    (kt : x < y → W p l e R s m args below meth c H locs cells slots Q (F0 m tgt ls rest)) (kf : ¬ x < y → W p l e R s m args below meth c H locs cells slots Q (F0 m (pc + 1 + 3) ls rest)) : W p l e R s m args below meth c H locs cells slots Q (F0 m pc ls (.long y :: .long x :: rest)) :=
  W.lcmp hx hb hdg (lv_if_lt hx hb hdg2 ht (fun h => kt ((zz_lc_lt x y).mp h)) (fun h => kf (fun q => h ((zz_lc_lt x y).mpr q))))
theorem zz_l_ge (hx : p.tables.exec = Jvm.exec) (hb : c.code = cc) {x y : Int64} {off : Int} {tgt : Nat} (hdg : decode cc pc = .ok (.lcmp, 1)) (hdg2 : decode cc (pc + 1) = .ok (.ifCond .ge off, 3)) (ht : ((pc + 1 : Nat) : Int) + off = (tgt : Int))
    (kt : y ≤ x → W p l e R s m args below meth c H locs cells slots Q (F0 m tgt ls rest)) (kf : ¬ y ≤ x → W p l e R s m args below meth c H locs cells slots Q (F0 m (pc + 1 + 3) ls rest)) : W p l e R s m args below meth c H locs cells slots Q (F0 m pc ls (.long y :: .long x :: rest)) :=
  W.lcmp hx hb hdg (lv_if_ge hx hb hdg2 ht (fun h => kt ((zz_lc_ge x y).mp h)) (fun h => kf (fun q => h ((zz_lc_ge x y).mpr q))))
theorem zz_l_gt (hx : p.tables.exec = Jvm.exec) (hb : c.code = cc) {x y : Int64} {off : Int} {tgt : Nat} (hdg : decode cc pc = .ok (.lcmp, 1)) (hdg2 : decode cc (pc + 1) = .ok (.ifCond .gt off, 3)) (ht : ((pc + 1 : Nat) : Int) + off = (tgt : Int))
    (kt : y < x → W p l e R s m args below meth c H locs cells slots Q (F0 m tgt ls rest)) (kf : ¬ y < x → W p l e R s m args below meth c H locs cells slots Q (F0 m (pc + 1 + 3) ls rest)) : W p l e R s m args below meth c H locs cells slots Q (F0 m pc ls (.long y :: .long x :: rest)) :=
  W.lcmp hx hb hdg (lv_if_gt hx hb hdg2 ht (fun h => kt ((zz_lc_gt x y).mp h)) (fun h => kf (fun q => h ((zz_lc_gt x y).mpr q))))
theorem zz_l_le (hx : p.tables.exec = Jvm.exec) (hb : c.code = cc) {x y : Int64} {off : Int} {tgt : Nat} (hdg : decode cc pc = .ok (.lcmp, 1)) (hdg2 : decode cc (pc + 1) = .ok (.ifCond .le off, 3)) (ht : ((pc + 1 : Nat) : Int) + off = (tgt : Int))
    (kt : x ≤ y → W p l e R s m args below meth c H locs cells slots Q (F0 m tgt ls rest)) (kf : ¬ x ≤ y → W p l e R s m args below meth c H locs cells slots Q (F0 m (pc + 1 + 3) ls rest)) : W p l e R s m args below meth c H locs cells slots Q (F0 m pc ls (.long y :: .long x :: rest)) :=
  W.lcmp hx hb hdg (lv_if_le hx hb hdg2 ht (fun h => kt ((zz_lc_le x y).mp h)) (fun h => kf (fun q => h ((zz_lc_le x y).mpr q))))
theorem zz_l_eq (hx : p.tables.exec = Jvm.exec) (hb : c.code = cc) {x y : Int64} {off : Int} {tgt : Nat} (hdg : decode cc pc = .ok (.lcmp, 1)) (hdg2 : decode cc (pc + 1) = .ok (.ifCond .eq off, 3)) (ht : ((pc + 1 : Nat) : Int) + off = (tgt : Int))
    (kt : x = y → W p l e R s m args below meth c H locs cells slots Q (F0 m tgt ls rest)) (kf : ¬ x = y → W p l e R s m args below meth c H locs cells slots Q (F0 m (pc + 1 + 3) ls rest)) : W p l e R s m args below meth c H locs cells slots Q (F0 m pc ls (.long y :: .long x :: rest)) :=
  W.lcmp hx hb hdg (lv_if_eq hx hb hdg2 ht (fun h => kt ((zz_lc_eq x y).mp h)) (fun h => kf (fun q => h ((zz_lc_eq x y).mpr q))))
theorem zz_l_ne (hx : p.tables.exec = Jvm.exec) (hb : c.code = cc) {x y : Int64} {off : Int} {tgt : Nat} (hdg : decode cc pc = .ok (.lcmp, 1)) (hdg2 : decode cc (pc + 1) = .ok (.ifCond .ne off, 3)) (ht : ((pc + 1 : Nat) : Int) + off = (tgt : Int))
    (kt : ¬ x = y → W p l e R s m args below meth c H locs cells slots Q (F0 m tgt ls rest)) (kf : x = y → W p l e R s m args below meth c H locs cells slots Q (F0 m (pc + 1 + 3) ls rest)) : W p l e R s m args below meth c H locs cells slots Q (F0 m pc ls (.long y :: .long x :: rest)) :=
  W.lcmp hx hb hdg (lv_if_ne hx hb hdg2 ht (fun h => kt (fun q => h ((zz_lc_eq x y).mpr q))) (fun h => kf ((zz_lc_eq x y).mp h)))
/-! returns -/
theorem zz_iret (hx : p.tables.exec = Jvm.exec) (hb : c.code = cc) (hr : meth.sig.returnType = some .int) (hlocks : meth.locks = false) {P : Int32 → zz_I → zz_L → Prop} {v : Int32} (hB : zz_B D ca ds A s.heap s a I L H locs) (hP : P v I L) (hdg : decode cc pc = .ok (.ireturn, 1)) :
    W p l e R s m args below meth c H locs cells slots (MQ below (zz_Qi D ca ds A a P) args s cells slots A) (F0 m pc ls [.int v]) := by
  obtain ⟨hK, hP1, hD, hS⟩ := hB
  exact W.iret (v := v) hx hb hr (fun t ht hW => ⟨⟨v, (I, L), rfl, hP, va_K.moved hW.alike hK, by rw [ht]; exact hP1, hD⟩, hS.F ht⟩) hS.2.2 hdg hlocks
theorem zz_zret (hx : p.tables.exec = Jvm.exec) (hb : c.code = cc) (hr : meth.sig.returnType = some .boolean) (hlocks : meth.locks = false) {P : Int32 → zz_I → zz_L → Prop} {v : Int32} (hz : zz_bool v) (hB : zz_B D ca ds A s.heap s a I L H locs) (hP : P v I L) (hdg : decode cc pc = .ok (.ireturn, 1)) :
    W p l e R s m args below meth c H locs cells slots (MQ below (zz_Qi D ca ds A a P) args s cells slots A) (F0 m pc ls [.int v]) := by
  obtain ⟨hK, hP1, hD, hS⟩ := hB
  exact W.zret (v := v) hx hb hr (by rcases hz with rfl | rfl <;> decide) (fun t ht hW => ⟨⟨v, (I, L), rfl, hP, va_K.moved hW.alike hK, by rw [ht]; exact hP1, hD⟩, hS.F ht⟩) hS.2.2 hdg hlocks
theorem zz_lret (hx : p.tables.exec = Jvm.exec) (hb : c.code = cc) (hr : meth.sig.returnType = some .long) (hlocks : meth.locks = false) {P : Int64 → zz_I → zz_L → Prop} {v : Int64} (hB : zz_B D ca ds A s.heap s a I L H locs) (hP : P v I L) (hdg : decode cc pc = .ok (.lreturn, 1)) :
    W p l e R s m args below meth c H locs cells slots (MQ below (zz_Ql D ca ds A a P) args s cells slots A) (F0 m pc ls [.long v]) := by
  obtain ⟨hK, hP1, hD, hS⟩ := hB
  exact W.lret (v := v) hx hb hr (fun t ht hW => ⟨⟨v, (I, L), rfl, hP, va_K.moved hW.alike hK, by rw [ht]; exact hP1, hD⟩, hS.F ht⟩) hS.2.2 hdg hlocks
theorem zz_vret (hx : p.tables.exec = Jvm.exec) (hb : c.code = cc) (hr : meth.sig.returnType = none) (hlocks : meth.locks = false) {P : zz_I → zz_L → Prop} (hB : zz_B D ca ds A s.heap s a I L H locs) (hP : P I L) (hdg : decode cc pc = .ok (.return_, 1)) :
    W p l e R s m args below meth c H locs cells slots (MQ below (zz_Qv D ca ds A a P) args s cells slots A) (F0 m pc ls []) := by
  obtain ⟨hK, hP1, hD, hS⟩ := hB
  exact W.vret hx hb hr (fun t ht hW => ⟨⟨(I, L), rfl, hP, va_K.moved hW.alike hK, by rw [ht]; exact hP1, hD⟩, hS.F ht⟩) hS.2.2 hdg hlocks
/-! the start of a method -/
theorem zz_start {y : MethodName} {bytes : ByteArray} {maxL : Nat} {ret : Option FieldType} {rm : Room} {av : List Value} {sz : Nat} {Qc : Array Value → State → Outcome → State → Prop} {mc ms : Nat} (hy : plainName y.cls = true) (hlen : (lg_sl av).length ≤ maxL)
    (body : ∀ (p : Program) (e : Env) (s : State) (m : MethodId) (below : List Frame) (meth : Method) (c : Code), zz_X p s m meth c bytes y.cls ret maxL → s.heap.size = sz → (∀ q, s.heap.size ≤ q → zz_A ca ds a I L sz q) → zz_Go p l e rm s m av.toArray below meth c 0 0 (MQ below Qc av.toArray s mc ms (zz_A ca ds a I L sz)) D ca ds (zz_A ca ds a I L sz) maxL 0 a [] (lv_args 0 av) I L) :
    Met l y [.code y bytes maxL ret] rm (zz_Pre D ca ds av a I L sz) Qc mc ms (zz_A ca ds a I L sz) := by
  refine Met.ofW (cc := bytes) (maxL := maxL) (ret := ret) hy rfl ?_
  intro p e s m args below meth c s₁ B hml hv
  obtain ⟨rfl, hsz, zw, hK, hP, hD0⟩ := hv
  have hX : zz_X p s m meth c bytes y.cls ret maxL := ⟨B.exec, B.bytes, hml, findClass_of_methodNamed B.named, zw, B.returns, B.notSynchronized⟩
  have hD := hD0.self (sz := sz)
  have hA : ∀ q, s.heap.size ≤ q → zz_A ca ds a I L sz q := fun q h => Or.inr (by rw [← hsz]; exact h)
  have hl := lv_entry av (n := maxL) hlen
  rw [lg_entry_eq]
  exact body p e s m below meth c hX hsz hA s.heap [] _ ⟨hK, hP, hD, va_S.rf⟩ hl
/-! calls -/
def zz_MC (own : String) (index : Nat) (y : MethodName) (bytes : ByteArray) (maxL : Nat) (ret : Option FieldType) (n : Nat) : Prop :=
  Cond.code y bytes maxL ret ∈ lw_tbl ∧ Cond.initialized y.cls ∈ lw_tbl ∧ (Cond.methodLink own index y ∈ lw_tbl ∨ ∃ host : String, Cond.methodLinkNest own index y host ∈ lw_tbl) ∧ (y.cls ≠ "java/lang/invoke/MethodHandle" ∧ y.cls ≠ "java/lang/invoke/VarHandle") ∧ (parseMethodDescriptor y.desc).map (fun d => d.parameters.length) = some n
def zz_MV (own : String) (index : Nat) (y : MethodName) (bytes : ByteArray) (maxL : Nat) (ret : Option FieldType) (n : Nat) : Prop := zz_MC own index y bytes maxL ret n ∧ Cond.instanceMethod y ∈ lw_tbl ∧ Cond.selects y.cls y y ∈ lw_tbl
def zz_MS (own : String) (index : Nat) (y : MethodName) (bytes : ByteArray) (maxL : Nat) (ret : Option FieldType) (n : Nat) : Prop := zz_MC own index y bytes maxL ret n ∧ Cond.static y ∈ lw_tbl
theorem zz_blind {av : List Value} {sz : Nat} : FrameBlind (zz_Pre D ca ds av a I L sz) := by
  intro v U g mk q
  obtain ⟨q0, q1, q2, q3, q4, q5⟩ := q
  exact ⟨q0, q1, zz_W_call q2, va_K.moved (u := U) (U := U.calling g mk v) (Vm.Alike.refl U.vm) q3, q4, q5⟩
theorem zz_pre {av : List Value} (zw : zz_W s) (hB : zz_B D ca ds A H0 s a I L H locs) : ∀ U : State, U.heap = H → s.WarmedH U.vm → zz_Pre D ca ds av a I L H.size av.toArray U := by
  intro U hU hW
  obtain ⟨hK, hP, hD, hS⟩ := hB
  exact ⟨rfl, by rw [hU], zz_W_warm hW zw, va_K.moved hW.alike hK, by rw [hU]; exact hP, hD.weaken (fun _ _ _ _ => trivial)⟩
theorem zz_mc_n {own : String} {index : Nat} {y : MethodName} {bytes : ByteArray} {maxL n : Nat} {ret : Option FieldType} (M : zz_MC own index y bytes maxL ret n) : ∀ sig, parseMethodDescriptor y.desc = some sig → n = sig.parameters.length := by
  intro sig h
  have h2 := M.2.2.2.2
  rw [h] at h2
  exact (Option.some.inj h2).symm
theorem zz_mc_w {own : String} {index : Nat} {y : MethodName} {bytes : ByteArray} {maxL n : Nat} {ret : Option FieldType} (zw : zz_W s) (M : zz_MC own index y bytes maxL ret n) : ∀ w ∈ [Cond.code y bytes maxL ret], ∀ (a' : Array Value) (U : State), s.WarmedH U.vm → w.before a' U = true := by
  intro w hw a' U hW
  rw [List.mem_singleton.mp hw]
  exact zz_W_use (zz_W_warm hW zw) M.1 rfl
theorem zz_runV (hx : p.tables.exec = Jvm.exec) (hb : c.code = cc) {nL : Nat} (hml : c.maxLocals = nL) {own : String} (hown : s.vm.findClass own = some m.cls) (zw : zz_W s) (hB : zz_B D ca ds A H0 s a I L H locs) {index maxL n k ci N mc ms : Nat} {T : u_T} {y : MethodName} {bytes : ByteArray} {ret : Option FieldType} {rm : Room} {As st : List Value} {fs : List (Nat ⊕ Bool)} {Qc : Array Value → State → Outcome → State → Prop} {free : Addr → Prop}
    (M : zz_MV own index y bytes maxL ret n) (hM : Met l y [.code y bytes maxL ret] rm (zz_Pre D ca ds (.ref (a k) :: As) a I L H.size) Qc mc ms free) (hd : ds[k]? = some (.inr (ci, fs))) (hc : vwCl[ci]? = some (y.cls, T, N)) (hn : As.length = n) (hls : ls.size = nL) (hst : st = As.reverse ++ .ref (a k) :: rest) (hW : (rest.map fun v => v.category).sum ≤ 8) (hrc : rm.cells = mc) (hrs : rm.slots = ms) (hR : rm.frames + 1 ≤ R.frames ∧ 8 + (maxL + 11) + rm.locals ≤ R.locals) (hdg : decode cc pc = .ok (.invokevirtual index, 3)) (hf : cells + mc ≤ R.cells ∧ slots + ms ≤ R.slots) :
    va_Run p l e R s m args below meth c H locs cells slots mc ms (F0 m pc ls st) rest (Qc (Value.ref (a k) :: As).toArray) free := by
  obtain ⟨M, hi, hse⟩ := M
  have hB' := hB
  obtain ⟨hK, hP, hD, hS⟩ := hB'
  have hrecv := va_recv hK hP (ci := ci) (q0 := k) hc (zz_get hd)
  have hpre : PreV s H y.cls (a k) (zz_Pre D ca ds (.ref (a k) :: As) a I L H.size) As := ⟨zz_blind, hrecv, zz_pre zw hB⟩
  have hS5 : CallFix p m c cc nL s args [] own := ⟨hx, hb, hml, hown, fun w h => by cases h⟩
  rcases M.2.2.1 with hl | ⟨host, hl⟩
  · exact va_runV (g := F0 m pc ls st) (n := n) hS5 hM ⟨⟨hrc, hrs, hR.1, hR.2, zz_mc_w zw M, List.mem_singleton.mpr rfl, zz_W_use zw M.1 rfl, zz_W_use zw M.2.1 rfl, M.2.2.2.1, zz_mc_n M, zz_W_use zw hl rfl⟩, zz_W_use zw hi rfl, zz_W_use zw hse rfl⟩ hpre rfl hn hls hst (lv_room hW) hdg hf
  · exact va_runVN (g := F0 m pc ls st) (n := n) (host := host) hS5 hM ⟨⟨⟨hrc, hrs, hR.1, hR.2, zz_mc_w zw M, List.mem_singleton.mpr rfl⟩, zz_W_use zw M.1 rfl, zz_W_use zw M.2.1 rfl, M.2.2.2.1, zz_mc_n M, zz_W_use zw hl rfl⟩, zz_W_use zw hi rfl, zz_W_use zw hse rfl⟩ hpre rfl hn hls hst (lv_room hW) hdg hf
theorem zz_runS (hx : p.tables.exec = Jvm.exec) (hb : c.code = cc) {nL : Nat} (hml : c.maxLocals = nL) {own : String} (hown : s.vm.findClass own = some m.cls) (zw : zz_W s) (hB : zz_B D ca ds A H0 s a I L H locs) {index maxL n mc ms : Nat} {y : MethodName} {bytes : ByteArray} {ret : Option FieldType} {rm : Room} {As st : List Value} {Qc : Array Value → State → Outcome → State → Prop} {free : Addr → Prop}
    (M : zz_MS own index y bytes maxL ret n) (hM : Met l y [.code y bytes maxL ret] rm (zz_Pre D ca ds As a I L H.size) Qc mc ms free) (hn : As.length = n) (hls : ls.size = nL) (hst : st = As.reverse ++ rest) (hW : (rest.map fun v => v.category).sum ≤ 8) (hrc : rm.cells = mc) (hrs : rm.slots = ms) (hR : rm.frames + 1 ≤ R.frames ∧ 8 + (maxL + 11) + rm.locals ≤ R.locals) (hdg : decode cc pc = .ok (.invokestatic index, 3)) (hf : cells + mc ≤ R.cells ∧ slots + ms ≤ R.slots) :
    va_Run p l e R s m args below meth c H locs cells slots mc ms (F0 m pc ls st) rest (Qc As.toArray) free := by
  obtain ⟨M, hi⟩ := M
  have hpre : PreS s H (zz_Pre D ca ds As a I L H.size) As := ⟨zz_blind, zz_pre zw hB⟩
  have hS5 : CallFix p m c cc nL s args [] own := ⟨hx, hb, hml, hown, fun w h => by cases h⟩
  rcases M.2.2.1 with hl | ⟨host, hl⟩
  · exact va_runS (g := F0 m pc ls st) (n := n) hS5 hM ⟨⟨hrc, hrs, hR.1, hR.2, zz_mc_w zw M, List.mem_singleton.mpr rfl, zz_W_use zw M.1 rfl, zz_W_use zw M.2.1 rfl, M.2.2.2.1, zz_mc_n M, zz_W_use zw hl rfl⟩, zz_W_use zw hi rfl⟩ hpre rfl hn hls hst (lv_room hW) hdg hf
  · exact va_runSN (g := F0 m pc ls st) (n := n) (host := host) hS5 hM ⟨⟨⟨hrc, hrs, hR.1, hR.2, zz_mc_w zw M, List.mem_singleton.mpr rfl⟩, zz_W_use zw M.1 rfl, zz_W_use zw M.2.1 rfl, M.2.2.2.1, zz_mc_n M, zz_W_use zw hl rfl⟩, zz_W_use zw hi rfl, trivial⟩ hpre rfl hn hls hst (lv_room hW) hdg hf
theorem zz_freeA (hB : zz_B D ca ds A H0 s a I L H locs) (hA : ∀ q, H0.size ≤ q → A q) : ∀ q, zz_A ca ds a I L H.size q → A q := by
  obtain ⟨hK, hP, hD, hS⟩ := hB
  intro q h
  rcases h with ⟨k, e, h⟩ | h
  · exact hD.2 k (q, e) h
  · exact hA q (Nat.le_trans hS.1 h)
theorem zz_back (hB : zz_B D ca ds A H0 s a I L H locs) (hA : ∀ q, H0.size ≤ q → A q) {u : zz_I × zz_L} {t : State} {H1 : Heap} {locs1 : List Loc} (ht : t.heap = H1) (hvm : s.vm.Alike t.vm) (hb : zz_At D ca ds (zz_A ca ds a I L H.size) a u t) (hS1 : va_S A H0 H1 locs1) : zz_B D ca ds A H0 s a u.1 u.2 H1 locs1 := by
  obtain ⟨b1, b2, b3⟩ := hb
  rw [ht] at b2
  exact ⟨va_K.moved hvm.symm b1, b2, b3.weaken (fun k q _ h => zz_freeA hB hA q.1 h), hS1⟩
theorem zz_goi (hB : zz_B D ca ds A H0 s a I L H locs) (hA : ∀ q, H0.size ≤ q → A q) {P : Int32 → zz_I → zz_L → Prop} {st : List Value} {av : Array Value} (hr : va_Run p l e R s m args below meth c H locs cells slots 0 0 (F0 m pc ls st) rest (zz_Qi D ca ds (zz_A ca ds a I L H.size) a P av) (zz_A ca ds a I L H.size))
    (kk : ∀ (r : Int32) (I : zz_I) (L : zz_L) (H : Heap) (locs : List Loc), P r I L → zz_B D ca ds A H0 s a I L H locs → W p l e R s m args below meth c H locs cells slots Q (F0 m (pc + 3) ls (.int r :: rest))) : W p l e R s m args below meth c H locs cells slots Q (F0 m pc ls st) :=
  va_calli hr hB.2.2.2 (fun q _ h => zz_freeA hB hA q h) (zz_freeA hB hA) (fun r u t H1 locs1 ht hvm hw hb _ _ hS1 => kk r u.1 u.2 H1 locs1 hw (zz_back hB hA ht hvm hb hS1))
theorem zz_gol (hB : zz_B D ca ds A H0 s a I L H locs) (hA : ∀ q, H0.size ≤ q → A q) {P : Int64 → zz_I → zz_L → Prop} {st : List Value} {av : Array Value} (hr : va_Run p l e R s m args below meth c H locs cells slots 0 0 (F0 m pc ls st) rest (zz_Ql D ca ds (zz_A ca ds a I L H.size) a P av) (zz_A ca ds a I L H.size))
    (kk : ∀ (r : Int64) (I : zz_I) (L : zz_L) (H : Heap) (locs : List Loc), P r I L → zz_B D ca ds A H0 s a I L H locs → W p l e R s m args below meth c H locs cells slots Q (F0 m (pc + 3) ls (.long r :: rest))) : W p l e R s m args below meth c H locs cells slots Q (F0 m pc ls st) :=
  va_calll hr hB.2.2.2 (fun q _ h => zz_freeA hB hA q h) (zz_freeA hB hA) (fun r u t H1 locs1 ht hvm hw hb _ _ hS1 => kk r u.1 u.2 H1 locs1 hw (zz_back hB hA ht hvm hb hS1))
theorem zz_gov (hB : zz_B D ca ds A H0 s a I L H locs) (hA : ∀ q, H0.size ≤ q → A q) {P : zz_I → zz_L → Prop} {st : List Value} {av : Array Value} (hr : va_Run p l e R s m args below meth c H locs cells slots 0 0 (F0 m pc ls st) rest (zz_Qv D ca ds (zz_A ca ds a I L H.size) a P av) (zz_A ca ds a I L H.size))
    (kk : ∀ (I : zz_I) (L : zz_L) (H : Heap) (locs : List Loc), P I L → zz_B D ca ds A H0 s a I L H locs → W p l e R s m args below meth c H locs cells slots Q (F0 m (pc + 3) ls rest)) : W p l e R s m args below meth c H locs cells slots Q (F0 m pc ls st) :=
  va_callv hr hB.2.2.2 (fun q _ h => zz_freeA hB hA q h) (zz_freeA hB hA) (fun u t H1 locs1 ht hvm hw hb _ _ hS1 => kk u.1 u.2 H1 locs1 hw (zz_back hB hA ht hvm hb hS1))
end ZR
