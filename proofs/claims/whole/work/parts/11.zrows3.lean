/-! the one making: the row 'ends', and the answers of methods that may make it -/
def zz_z45 (L : zz_L) : zz_L := fun k j => if k = 45 then 0 else L k j
def zz_refs : zz_D → List Nat
  | .inl _ => []
  | .inr q => q.2.filterMap (fun f => match f with
    | .inl d => some d
    | .inr _ => none)
theorem zz_cell_congr2 {ca : Nat → ClassId} {a a1 : Nat → Nat} {I I1 : zz_I} {L L1 : zz_L} {k : Nat} {d : zz_D} (h1 : I1 k = I k) (h2 : L1 k = L k) (h3 : ∀ x ∈ zz_refs d, a1 (k + x) = a (k + x)) : zz_cell ca a1 I1 L1 k d = zz_cell ca a I L k d := by
  cases d with
  | inl q => exact zz_cell_congr (a := a) (d := .inl q) h1 h2
  | inr q =>
    show Sum.inr (q.1, q.2.mapIdx (zz_val a1 I1 L1 k)) = Sum.inr (q.1, q.2.mapIdx (zz_val a I L k))
    have e1 : q.2.mapIdx (zz_val a1 I1 L1 k) = q.2.mapIdx (zz_val a I L k) := by
      refine List.ext_getElem? (fun j => ?_)
      rw [List.getElem?_mapIdx, List.getElem?_mapIdx]
      cases hf : q.2[j]? with
      | none => rfl
      | some f =>
        show some (zz_val a1 I1 L1 k j f) = some (zz_val a I L k j f)
        cases f with
        | inl x =>
          show some (Value.ref (a1 (k + x))) = some (Value.ref (a (k + x)))
          rw [h3 x (List.mem_filterMap.mpr ⟨.inl x, List.mem_of_getElem? hf, rfl⟩)]
        | inr b => cases b <;> simp [zz_val, h1, h2]
    rw [e1]
theorem zz_norefs : ∀ k, k < 56 → k ≠ 44 → ∀ x ∈ zz_refs (zz_dC.getD k (.inl (0, 0))), k + x ≠ 45 := by decide +kernel
def zz_QiN (D : va_G) (ca : Nat → ClassId) (ds : List zz_D) (A : Nat → Prop) (a : Nat → Nat) (P : Int32 → zz_I → zz_L → Prop) : Array Value → State → Outcome → State → Prop := va_Qi (fun r (u : (Nat → Nat) × zz_I × zz_L) => P r u.2.1 u.2.2 ∧ ∀ k, k ≠ 45 → u.1 k = a k) (fun u t => zz_At D ca ds A u.1 u.2 t) A
def zz_QlN (D : va_G) (ca : Nat → ClassId) (ds : List zz_D) (A : Nat → Prop) (a : Nat → Nat) (P : Int64 → zz_I → zz_L → Prop) : Array Value → State → Outcome → State → Prop := va_Ql (fun r (u : (Nat → Nat) × zz_I × zz_L) => P r u.2.1 u.2.2 ∧ ∀ k, k ≠ 45 → u.1 k = a k) (fun u t => zz_At D ca ds A u.1 u.2 t) A
def zz_QvN (D : va_G) (ca : Nat → ClassId) (ds : List zz_D) (A : Nat → Prop) (a : Nat → Nat) (P : zz_I → zz_L → Prop) : Array Value → State → Outcome → State → Prop := va_Qv (fun (u : (Nat → Nat) × zz_I × zz_L) => P u.2.1 u.2.2 ∧ ∀ k, k ≠ 45 → u.1 k = a k) (fun u t => zz_At D ca ds A u.1 u.2 t) A
section ZR3
variable {p : Program} {l : Launch} {e : Env} {R : Room} {s : State} {m : MethodId} {args : Array Value} {below : List Frame} {meth : Method} {c : Code} {H : Heap} {locs : List Loc} {cells slots : Nat} {Q : State → Prop}
variable {cc : ByteArray} {pc : Nat} {ls : Array Slot} {rest : List Value} {D : va_G} {A : Nat → Prop} {H0 : Heap} {ca : Nat → ClassId} {ds : List zz_D} {a a0 : Nat → Nat} {I : zz_I} {L : zz_L}
theorem zz_iretN (hx : p.tables.exec = Jvm.exec) (hb : c.code = cc) (hr : meth.sig.returnType = some .int) (hlocks : meth.locks = false) {P : Int32 → zz_I → zz_L → Prop} {v : Int32} (ha : ∀ k, k ≠ 45 → a k = a0 k) (hB : zz_B D ca ds A s.heap s a I L H locs) (hP : P v I L) (hdg : decode cc pc = .ok (.ireturn, 1)) :
    W p l e R s m args below meth c H locs cells slots (MQ below (zz_QiN D ca ds A a0 P) args s cells slots A) (F0 m pc ls [.int v]) := by
  obtain ⟨hK, hP1, hD, hS⟩ := hB
  exact W.iret (v := v) hx hb hr (fun t ht hW => ⟨⟨v, (a, I, L), rfl, ⟨hP, ha⟩, va_K.moved hW.alike hK, by rw [ht]; exact hP1, hD⟩, hS.F ht⟩) hS.2.2 hdg hlocks
theorem zz_lretN (hx : p.tables.exec = Jvm.exec) (hb : c.code = cc) (hr : meth.sig.returnType = some .long) (hlocks : meth.locks = false) {P : Int64 → zz_I → zz_L → Prop} {v : Int64} (ha : ∀ k, k ≠ 45 → a k = a0 k) (hB : zz_B D ca ds A s.heap s a I L H locs) (hP : P v I L) (hdg : decode cc pc = .ok (.lreturn, 1)) :
    W p l e R s m args below meth c H locs cells slots (MQ below (zz_QlN D ca ds A a0 P) args s cells slots A) (F0 m pc ls [.long v]) := by
  obtain ⟨hK, hP1, hD, hS⟩ := hB
  exact W.lret (v := v) hx hb hr (fun t ht hW => ⟨⟨v, (a, I, L), rfl, ⟨hP, ha⟩, va_K.moved hW.alike hK, by rw [ht]; exact hP1, hD⟩, hS.F ht⟩) hS.2.2 hdg hlocks
theorem zz_vretN (hx : p.tables.exec = Jvm.exec) (hb : c.code = cc) (hr : meth.sig.returnType = none) (hlocks : meth.locks = false) {P : zz_I → zz_L → Prop} (ha : ∀ k, k ≠ 45 → a k = a0 k) (hB : zz_B D ca ds A s.heap s a I L H locs) (hP : P I L) (hdg : decode cc pc = .ok (.return_, 1)) :
    W p l e R s m args below meth c H locs cells slots (MQ below (zz_QvN D ca ds A a0 P) args s cells slots A) (F0 m pc ls []) := by
  obtain ⟨hK, hP1, hD, hS⟩ := hB
  exact W.vret hx hb hr (fun t ht hW => ⟨⟨(a, I, L), rfl, ⟨hP, ha⟩, va_K.moved hW.alike hK, by rw [ht]; exact hP1, hD⟩, hS.F ht⟩) hS.2.2 hdg hlocks
theorem zz_backN (hB : zz_B D ca ds A H0 s a I L H locs) (hA : ∀ q, H0.size ≤ q → A q) {u : (Nat → Nat) × zz_I × zz_L} {t : State} {H1 : Heap} {locs1 : List Loc} (ht : t.heap = H1) (hvm : s.vm.Alike t.vm) (hb : zz_At D ca ds (zz_A ca ds a I L H.size) u.1 u.2 t) (hS1 : va_S A H0 H1 locs1) : zz_B D ca ds A H0 s u.1 u.2.1 u.2.2 H1 locs1 := by
  obtain ⟨b1, b2, b3⟩ := hb
  rw [ht] at b2
  exact ⟨va_K.moved hvm.symm b1, b2, b3.weaken (fun k q _ h => zz_freeA hB hA q.1 h), hS1⟩
theorem zz_govN (hB : zz_B D ca ds A H0 s a I L H locs) (hA : ∀ q, H0.size ≤ q → A q) {P : zz_I → zz_L → Prop} {st : List Value} {av : Array Value} {mc ms : Nat} (hr : va_Run p l e R s m args below meth c H locs cells slots mc ms (F0 m pc ls st) rest (zz_QvN D ca ds (zz_A ca ds a I L H.size) a P av) (zz_A ca ds a I L H.size))
    (kk : ∀ (a1 : Nat → Nat) (I : zz_I) (L : zz_L) (H : Heap) (locs : List Loc), (∀ k, k ≠ 45 → a1 k = a k) → P I L → zz_B D ca ds A H0 s a1 I L H locs → W p l e R s m args below meth c H locs (cells + mc) (slots + ms) Q (F0 m (pc + 3) ls rest)) : W p l e R s m args below meth c H locs cells slots Q (F0 m pc ls st) :=
  va_callv hr hB.2.2.2 (fun q _ h => zz_freeA hB hA q h) (zz_freeA hB hA) (fun u t H1 locs1 ht hvm hw hb _ _ hS1 => kk u.1 u.2.1 u.2.2 H1 locs1 hw.2 hw.1 (zz_backN hB hA ht hvm hb hS1))
theorem zz_goiN (hB : zz_B D ca ds A H0 s a I L H locs) (hA : ∀ q, H0.size ≤ q → A q) {P : Int32 → zz_I → zz_L → Prop} {st : List Value} {av : Array Value} {mc ms : Nat} (hr : va_Run p l e R s m args below meth c H locs cells slots mc ms (F0 m pc ls st) rest (zz_QiN D ca ds (zz_A ca ds a I L H.size) a P av) (zz_A ca ds a I L H.size))
    (kk : ∀ (r : Int32) (a1 : Nat → Nat) (I : zz_I) (L : zz_L) (H : Heap) (locs : List Loc), (∀ k, k ≠ 45 → a1 k = a k) → P r I L → zz_B D ca ds A H0 s a1 I L H locs → W p l e R s m args below meth c H locs (cells + mc) (slots + ms) Q (F0 m (pc + 3) ls (.int r :: rest))) : W p l e R s m args below meth c H locs cells slots Q (F0 m pc ls st) :=
  va_calli hr hB.2.2.2 (fun q _ h => zz_freeA hB hA q h) (zz_freeA hB hA) (fun r u t H1 locs1 ht hvm hw hb _ _ hS1 => kk r u.1 u.2.1 u.2.2 H1 locs1 hw.2 hw.1 (zz_backN hB hA ht hvm hb hS1))
theorem zz_golN (hB : zz_B D ca ds A H0 s a I L H locs) (hA : ∀ q, H0.size ≤ q → A q) {P : Int64 → zz_I → zz_L → Prop} {st : List Value} {av : Array Value} {mc ms : Nat} (hr : va_Run p l e R s m args below meth c H locs cells slots mc ms (F0 m pc ls st) rest (zz_QlN D ca ds (zz_A ca ds a I L H.size) a P av) (zz_A ca ds a I L H.size))
    (kk : ∀ (r : Int64) (a1 : Nat → Nat) (I : zz_I) (L : zz_L) (H : Heap) (locs : List Loc), (∀ k, k ≠ 45 → a1 k = a k) → P r I L → zz_B D ca ds A H0 s a1 I L H locs → W p l e R s m args below meth c H locs (cells + mc) (slots + ms) Q (F0 m (pc + 3) ls (.long r :: rest))) : W p l e R s m args below meth c H locs cells slots Q (F0 m pc ls st) :=
  va_calll hr hB.2.2.2 (fun q _ h => zz_freeA hB hA q h) (zz_freeA hB hA) (fun r u t H1 locs1 ht hvm hw hb _ _ hS1 => kk r u.1 u.2.1 u.2.2 H1 locs1 hw.2 hw.1 (zz_backN hB hA ht hvm hb hS1))
/-- the class of an array of a type is one -/
theorem zz_cA {tys : List (ClassId × FieldType)} {cA cB : ClassId} {i j : Nat} {ty : FieldType} {cl : List vw_C} (hty : ∀ C, ty ≠ .object C) (h : va_K D cl tys s) (h1 : tys[i]? = some (cA, ty)) (h2 : tys[j]? = some (cB, ty)) : cA = cB := by
  have e1 := (h.2 i _ h1).2
  have e2 := (h.2 j _ h2).2
  cases ty with
  | object C => exact absurd rfl (hty C)
  | _ =>
    have e3 : s.vm.findClass _ = some cA := e1
    have e4 : s.vm.findClass _ = some cB := e2
    exact Option.some.inj (e3.symm.trans e4)
end ZR3
theorem zP_X3_9r : (∀ w ∈ u_ws RX3 TX3 5, w ∈ lw_tbl.filter zz_good) ∧ Cond.fieldLink RX3 9 (TX3 0).1 (TX3 0).2.1 (TX3 0).2.2.1 ∈ lw_tbl := ⟨zl_X3, by decide +kernel⟩
theorem zk_arrJ : Cond.arrayClass .long ∈ lw_tbl := by decide +kernel
theorem zk_arrI : Cond.arrayClass .int ∈ lw_tbl := by decide +kernel
theorem zk_arrZ : Cond.arrayClass .boolean ∈ lw_tbl := by decide +kernel
section ZR4
variable {p : Program} {l : Launch} {e : Env} {R : Room} {s : State} {m : MethodId} {args : Array Value} {below : List Frame} {meth : Method} {c : Code} {H : Heap} {locs : List Loc} {cells slots : Nat} {Q : State → Prop}
variable {cc : ByteArray} {pc : Nat} {ls : Array Slot} {rest : List Value} {D : va_G} {A : Nat → Prop} {H0 : Heap} {ca : Nat → ClassId} {a a0 : Nat → Nat} {I : zz_I} {L : zz_L}
set_option maxRecDepth 100000 in
theorem zz_newends (hx : p.tables.exec = Jvm.exec) (hb : c.code = cc) (hown : s.vm.findClass RX3 = some m.cls) (zw : zz_W s) (hB : zz_B D ca zz_dC A H0 s a I L H locs) (hA : ∀ q, H0.size ≤ q → A q) {n : Int32} (hn : n = 14016) (hdg : decode cc pc = .ok (.newarray .long, 2)) (hdg2 : decode cc (pc + 2) = .ok (.putfield 9, 3)) (hcells : cells + 1 ≤ R.cells) (hslots : slots + 14016 ≤ R.slots)
    (kk : ∀ (a1 : Nat → Nat) (H : Heap) (locs : List Loc), (∀ k, k ≠ 45 → a1 k = a k) → zz_B D ca zz_dC A H0 s a1 (zz_up I 45 0 14016) (zz_z45 L) H locs → W p l e R s m args below meth c H locs (cells + 1) (slots + 14016) Q (F0 m (pc + 2 + 3) ls rest)) : W p l e R s m args below meth c H locs cells slots Q (F0 m pc ls (.int n :: .ref (a 44) :: rest)) := by
  obtain ⟨hK, hP, hD, hS⟩ := hB
  subst hn
  refine va_newa (atype := .long) hx hb (zz_W_use zw zk_arrJ rfl) (ty := .long) rfl hK hP hD hS hA (N' := 14016) (a0 := (14016, .inr (.inl (fun _ => 0)))) (fun _ => rfl) (by decide) (by decide) (Nat.le_of_ble_eq_true rfl) hcells hslots hdg (fun q cA H1 hK1 hP1 hD1 hS1 => ?_)
  have hcA : cA = ca 2 := zz_cA (i := 3) (j := 2) (fun C h => by cases h) hK1 rfl rfl
  subst hcA
  have hlen : (zz_cells ca zz_dC a I L).length = 56 := by unfold zz_cells; rw [List.length_mapIdx]; rfl
  have he44 : ((zz_cells ca zz_dC a I L) ++ [(q, (Sum.inl (ca 2, 14016, .inr (.inl (fun _ => 0))) : va_E))])[44]? = some (a 44, .inr (3, zz_fRan.mapIdx (zz_val a I L 44))) := by
    rw [List.getElem?_append_left (by rw [hlen]; decide)]
    exact zz_get zdC_44
  refine va_put (D := D) (ci := 3) (v := .ref q) (ty := .array .long) (C := RX3) (T := TX3) (N := 5) hx hb (zz_hts zw) zP_X3_9r.1 tyX3 tyX3_ok nmX3 hown hK1 hP1 hD1 hS1 44 he44 rfl 0 (by decide) (zz_W_use zw zP_X3_9r.2 rfl) (fun _ h9 => h9) rfl (by decide +kernel) rfl rfl (by rw [List.length_mapIdx]; decide) hdg2 (fun H2 locs2 hP2 hD2 hS2 => ?_)
  obtain ⟨a1, ea1⟩ : ∃ z : Nat → Nat, z = va_up a 45 q := ⟨_, rfl⟩
  have ha1 : ∀ k, k ≠ 45 → a1 k = a k := fun k hk => by rw [ea1]; simp [va_up, hk]
  have ha45 : a1 45 = q := by rw [ea1]; simp [va_up]
  have hkey : ∀ (k : Nat) (d : zz_D), zz_dC[k]? = some d → ∃ k2 : Nat, (((zz_cells ca zz_dC a I L) ++ [(q, (Sum.inl (ca 2, 14016, .inr (.inl (fun _ => 0))) : va_E))]).set 44 (a 44, .inr (3, (zz_fRan.mapIdx (zz_val a I L 44)).set 0 (.ref q))))[k2]? = some (a1 k, zz_cell ca a1 (zz_up I 45 0 14016) (zz_z45 L) k d) ∧ (k2 = if k = 45 then 56 else k) := by
    intro k d hd
    have hk56 : k < 56 := (List.getElem?_eq_some_iff.mp hd).1
    by_cases h45 : k = 45
    · subst h45
      refine ⟨56, ?_, rfl⟩
      cases (zdC_45.symm.trans hd)
      rw [List.getElem?_set_ne (by decide), List.getElem?_append_right (by rw [hlen]; decide), hlen, ha45]
      rfl
    · refine ⟨k, ?_, by rw [if_neg h45]⟩
      by_cases h44 : k = 44
      · subst h44
        cases (zdC_44.symm.trans hd)
        rw [List.getElem?_set_self (by rw [List.length_append, hlen]; exact Nat.lt_of_lt_of_le (by decide : 44 < 56) (Nat.le_add_right _ _)), ha1 44 (by decide)]
        have e1 : (zz_fRan.mapIdx (zz_val a I L 44)).set 0 (.ref q) = zz_fRan.mapIdx (zz_val a1 (zz_up I 45 0 14016) (zz_z45 L) 44) := by
          have g0 : a1 (44 + 1) = q := ha45
          show [Value.ref q, .ref (a (44 + 2)), .ref (a (44 + 3)), .int (I 44 3), .int (I 44 4)] = [Value.ref (a1 (44 + 1)), .ref (a1 (44 + 2)), .ref (a1 (44 + 3)), .int (zz_up I 45 0 14016 44 3), .int (zz_up I 45 0 14016 44 4)]
          rw [g0, ha1 (44 + 2) (by decide), ha1 (44 + 3) (by decide)]
          rfl
        rw [e1]
        rfl
      · rw [List.getElem?_set_ne (fun z => h44 z.symm), List.getElem?_append_left (by rw [hlen]; exact hk56), zz_get hd, ha1 k h45]
        have hr := zz_norefs k hk56 h44
        have hgd : zz_dC.getD k (.inl (0, 0)) = d := by rw [List.getD_eq_getElem?_getD, hd]; rfl
        rw [hgd] at hr
        have e2 : zz_cell ca a1 (zz_up I 45 0 14016) (zz_z45 L) k d = zz_cell ca a I L k d := zz_cell_congr2 (zz_up_ne I 45 0 _ k h45) (by funext j; simp [zz_z45, h45]) (fun x hx => ha1 (k + x) (hr x hx))
        rw [e2]
  refine kk a1 H2 locs2 ha1 ⟨hK1.sub [0, 1, 2] rfl, ?_, ⟨?_, ?_⟩, hS2⟩
  · intro k x hx
    rw [zz_get_map] at hx
    cases hd : zz_dC[k]? with
    | none => rw [hd] at hx; cases hx
    | some d =>
      rw [hd] at hx
      cases hx
      obtain ⟨k2, h2, -⟩ := hkey k d hd
      exact hP2 k2 _ h2
  · intro i j x y hx hy hxy
    rw [zz_get_map] at hx hy
    cases hdi : zz_dC[i]? with
    | none => rw [hdi] at hx; cases hx
    | some di =>
      cases hdj : zz_dC[j]? with
      | none => rw [hdj] at hy; cases hy
      | some dj =>
        rw [hdi] at hx
        rw [hdj] at hy
        cases hx
        cases hy
        obtain ⟨ki, h2i, ei⟩ := hkey i di hdi
        obtain ⟨kj, h2j, ej⟩ := hkey j dj hdj
        have hij := hD2.1 ki kj _ _ h2i h2j hxy
        have hi56 : i < 56 := (List.getElem?_eq_some_iff.mp hdi).1
        have hj56 : j < 56 := (List.getElem?_eq_some_iff.mp hdj).1
        rw [ei, ej] at hij
        split at hij <;> split at hij <;> omega
  · intro k x hx
    rw [zz_get_map] at hx
    cases hd : zz_dC[k]? with
    | none => rw [hd] at hx; cases hx
    | some d =>
      rw [hd] at hx
      cases hx
      obtain ⟨k2, h2, -⟩ := hkey k d hd
      exact hD2.2 k2 _ h2
end ZR4
