/-! the law's two worlds -/
abbrev zl_A (s : State) : Nat → Prop := fun q => s.heap.size ≤ q
def zl_B (D : va_G) (ca : Nat → ClassId) (s : State) (aC : Nat → Nat) (IC : zz_I) (LC : zz_L) (aM : Nat → Nat) (IM : zz_I) (LM : zz_L) (H : Heap) (locs : List Loc) : Prop :=
  zz_B D ca zz_dC (zl_A s) s.heap s aC IC LC H locs ∧ zz_B D ca zz_dM (zl_A s) s.heap s aM IM LM H locs ∧ ∀ i j, i < zz_dC.length → j < zz_dM.length → aC i ≠ aM j
theorem zl_cell {ca : Nat → ClassId} {ds : List zz_D} {a : Nat → Nat} {I : zz_I} {L : zz_L} {k : Nat} {x : Nat × va_E} (h : (zz_cells ca ds a I L)[k]? = some x) : k < ds.length ∧ x.1 = a k := by
  rw [zz_get_map] at h
  cases hd : ds[k]? with
  | none => rw [hd] at h; cases h
  | some d =>
    rw [hd] at h
    cases h
    exact ⟨(List.getElem?_eq_some_iff.mp hd).1, rfl⟩
theorem zl_keep {D : va_G} {ca : Nat → ClassId} {s : State} {d1 d2 : List zz_D} {a1 a2 : Nat → Nat} {I1 I2 : zz_I} {L1 L2 : zz_L} {H H1 : Heap} {locs locs1 : List Loc} (h2 : zz_B D ca d2 (zl_A s) s.heap s a2 I2 L2 H locs) (hap : ∀ i j, i < d1.length → j < d2.length → a1 i ≠ a2 j) (hk : ∀ q : Nat, q < H.size → ¬ zz_A ca d1 a1 I1 L1 H.size q → H1[q]? = H[q]?) (hS1 : va_S (zl_A s) s.heap H1 locs1) : zz_B D ca d2 (zl_A s) s.heap s a2 I2 L2 H1 locs1 := by
  obtain ⟨hK, hP, hD, hS⟩ := h2
  refine ⟨hK, fun k x hx => ?_, hD, hS1⟩
  have hat := hP k x hx
  refine hat.kept (hk x.1 hat.lt (fun h => ?_))
  obtain ⟨hk2, e2⟩ := zl_cell hx
  rcases h with ⟨k1, e, h⟩ | h
  · obtain ⟨hk1, e1⟩ := zl_cell h
    exact hap k1 k hk1 hk2 (e1.symm.trans e2)
  · have := hat.lt
    omega
theorem zl_apart {D : va_G} {ca : Nat → ClassId} {s : State} {a1 a2 a3 : Nat → Nat} {I1 I2 I3 : zz_I} {L1 L2 L3 : zz_L} {d1 d2 : List zz_D} {H : Heap} {locs : List Loc} (h2 : zz_B D ca d2 (zl_A s) s.heap s a2 I2 L2 H locs) (hap : ∀ i j, i < d1.length → j < d2.length → a1 i ≠ a2 j) (hD3 : va_D (zz_A ca d1 a1 I1 L1 H.size) (zz_cells ca d1 a3 I3 L3)) : ∀ i j, i < d1.length → j < d2.length → a3 i ≠ a2 j := by
  intro i j hi hj he
  have hdi : d1[i]? = some d1[i] := List.getElem?_eq_getElem hi
  have hdj : d2[j]? = some d2[j] := List.getElem?_eq_getElem hj
  have h3 := hD3.2 i _ (zz_get (ca := ca) (a := a3) (I := I3) (L := L3) hdi)
  have hlt := (h2.2.1 j _ (zz_get hdj)).lt
  rcases h3 with ⟨k1, e, h⟩ | h
  · obtain ⟨hk1, e1⟩ := zl_cell h
    exact hap k1 j hk1 hj (e1.symm.trans he)
  · have : H.size ≤ a3 i := h
    have h5 : a2 j < H.size := hlt
    omega
section ZW
variable {p : Program} {l : Launch} {e : Env} {R : Room} {s : State} {m : MethodId} {args : Array Value} {below : List Frame} {meth : Method} {c : Code} {H : Heap} {locs : List Loc} {cells slots : Nat} {Q : State → Prop}
variable {pc : Nat} {ls : Array Slot} {rest st : List Value} {D : va_G} {ca : Nat → ClassId} {aC aM : Nat → Nat} {IC IM : zz_I} {LC LM : zz_L} {av : Array Value}
theorem zl_Ci (hB : zl_B D ca s aC IC LC aM IM LM H locs) {P : Int32 → zz_I → zz_L → Prop} (hr : va_Run p l e R s m args below meth c H locs cells slots 0 0 (F0 m pc ls st) rest (zz_Qi D ca zz_dC (zz_A ca zz_dC aC IC LC H.size) aC P av) (zz_A ca zz_dC aC IC LC H.size))
    (kk : ∀ (r : Int32) (IC : zz_I) (LC : zz_L) (H : Heap) (locs : List Loc), P r IC LC → zl_B D ca s aC IC LC aM IM LM H locs → W p l e R s m args below meth c H locs cells slots Q (F0 m (pc + 3) ls (.int r :: rest))) : W p l e R s m args below meth c H locs cells slots Q (F0 m pc ls st) :=
  va_calli hr hB.1.2.2.2 (fun q _ h => zz_freeA hB.1 (fun _ h => h) q h) (zz_freeA hB.1 (fun _ h => h)) (fun r u t H1 locs1 ht hvm hw hb _ hk hS1 => kk r u.1 u.2 H1 locs1 hw ⟨zz_back hB.1 (fun _ h => h) ht hvm hb hS1, zl_keep hB.2.1 hB.2.2 hk hS1, hB.2.2⟩)
theorem zl_Cip (hB : zl_B D ca s aC IC LC aM IM LM H locs) {P : Int32 → Prop} (hr : va_Run p l e R s m args below meth c H locs cells slots 0 0 (F0 m pc ls st) rest (zz_Qi D ca zz_dC (zz_A ca zz_dC aC IC LC H.size) aC (fun r I9 L9 => P r ∧ I9 = IC ∧ L9 = LC) av) (zz_A ca zz_dC aC IC LC H.size))
    (kk : ∀ (r : Int32) (H : Heap) (locs : List Loc), P r → zl_B D ca s aC IC LC aM IM LM H locs → W p l e R s m args below meth c H locs cells slots Q (F0 m (pc + 3) ls (.int r :: rest))) : W p l e R s m args below meth c H locs cells slots Q (F0 m pc ls st) :=
  zl_Ci hB hr (fun r I9 L9 H1 locs1 hw hB1 => by
    obtain ⟨h1, h2, h3⟩ := hw
    rw [h2, h3] at hB1
    exact kk r H1 locs1 h1 hB1)
theorem zl_Cl (hB : zl_B D ca s aC IC LC aM IM LM H locs) {P : Int64 → zz_I → zz_L → Prop} (hr : va_Run p l e R s m args below meth c H locs cells slots 0 0 (F0 m pc ls st) rest (zz_Ql D ca zz_dC (zz_A ca zz_dC aC IC LC H.size) aC P av) (zz_A ca zz_dC aC IC LC H.size))
    (kk : ∀ (r : Int64) (IC : zz_I) (LC : zz_L) (H : Heap) (locs : List Loc), P r IC LC → zl_B D ca s aC IC LC aM IM LM H locs → W p l e R s m args below meth c H locs cells slots Q (F0 m (pc + 3) ls (.long r :: rest))) : W p l e R s m args below meth c H locs cells slots Q (F0 m pc ls st) :=
  va_calll hr hB.1.2.2.2 (fun q _ h => zz_freeA hB.1 (fun _ h => h) q h) (zz_freeA hB.1 (fun _ h => h)) (fun r u t H1 locs1 ht hvm hw hb _ hk hS1 => kk r u.1 u.2 H1 locs1 hw ⟨zz_back hB.1 (fun _ h => h) ht hvm hb hS1, zl_keep hB.2.1 hB.2.2 hk hS1, hB.2.2⟩)
theorem zl_CiN (hB : zl_B D ca s aC IC LC aM IM LM H locs) {P : Int32 → zz_I → zz_L → Prop} (hr : va_Run p l e R s m args below meth c H locs cells slots 1 14016 (F0 m pc ls st) rest (zz_QiN D ca zz_dC (zz_A ca zz_dC aC IC LC H.size) aC P av) (zz_A ca zz_dC aC IC LC H.size))
    (kk : ∀ (r : Int32) (a1 : Nat → Nat) (IC : zz_I) (LC : zz_L) (H : Heap) (locs : List Loc), P r IC LC → a1 0 = aC 0 → zl_B D ca s a1 IC LC aM IM LM H locs → W p l e R s m args below meth c H locs (cells + 1) (slots + 14016) Q (F0 m (pc + 3) ls (.int r :: rest))) : W p l e R s m args below meth c H locs cells slots Q (F0 m pc ls st) :=
  va_calli hr hB.1.2.2.2 (fun q _ h => zz_freeA hB.1 (fun _ h => h) q h) (zz_freeA hB.1 (fun _ h => h)) (fun r u t H1 locs1 ht hvm hw hb _ hk hS1 => kk r u.1 u.2.1 u.2.2 H1 locs1 hw.1 (hw.2 0 (by decide)) ⟨zz_backN hB.1 (fun _ h => h) ht hvm hb hS1, zl_keep hB.2.1 hB.2.2 hk hS1, zl_apart hB.2.1 hB.2.2 hb.2.2⟩)
theorem zl_ClN (hB : zl_B D ca s aC IC LC aM IM LM H locs) {P : Int64 → zz_I → zz_L → Prop} (hr : va_Run p l e R s m args below meth c H locs cells slots 1 14016 (F0 m pc ls st) rest (zz_QlN D ca zz_dC (zz_A ca zz_dC aC IC LC H.size) aC P av) (zz_A ca zz_dC aC IC LC H.size))
    (kk : ∀ (r : Int64) (a1 : Nat → Nat) (IC : zz_I) (LC : zz_L) (H : Heap) (locs : List Loc), P r IC LC → a1 0 = aC 0 → zl_B D ca s a1 IC LC aM IM LM H locs → W p l e R s m args below meth c H locs (cells + 1) (slots + 14016) Q (F0 m (pc + 3) ls (.long r :: rest))) : W p l e R s m args below meth c H locs cells slots Q (F0 m pc ls st) :=
  va_calll hr hB.1.2.2.2 (fun q _ h => zz_freeA hB.1 (fun _ h => h) q h) (zz_freeA hB.1 (fun _ h => h)) (fun r u t H1 locs1 ht hvm hw hb _ hk hS1 => kk r u.1 u.2.1 u.2.2 H1 locs1 hw.1 (hw.2 0 (by decide)) ⟨zz_backN hB.1 (fun _ h => h) ht hvm hb hS1, zl_keep hB.2.1 hB.2.2 hk hS1, zl_apart hB.2.1 hB.2.2 hb.2.2⟩)
theorem zl_Mi (hB : zl_B D ca s aC IC LC aM IM LM H locs) {P : Int32 → zz_I → zz_L → Prop} (hr : va_Run p l e R s m args below meth c H locs cells slots 0 0 (F0 m pc ls st) rest (zz_Qi D ca zz_dM (zz_A ca zz_dM aM IM LM H.size) aM P av) (zz_A ca zz_dM aM IM LM H.size))
    (kk : ∀ (r : Int32) (IM : zz_I) (LM : zz_L) (H : Heap) (locs : List Loc), P r IM LM → zl_B D ca s aC IC LC aM IM LM H locs → W p l e R s m args below meth c H locs cells slots Q (F0 m (pc + 3) ls (.int r :: rest))) : W p l e R s m args below meth c H locs cells slots Q (F0 m pc ls st) :=
  va_calli hr hB.2.1.2.2.2 (fun q _ h => zz_freeA hB.2.1 (fun _ h => h) q h) (zz_freeA hB.2.1 (fun _ h => h)) (fun r u t H1 locs1 ht hvm hw hb _ hk hS1 => kk r u.1 u.2 H1 locs1 hw ⟨zl_keep hB.1 (fun i j hi hj e => hB.2.2 j i hj hi e.symm) hk hS1, zz_back hB.2.1 (fun _ h => h) ht hvm hb hS1, hB.2.2⟩)
theorem zl_Ml (hB : zl_B D ca s aC IC LC aM IM LM H locs) {P : Int64 → zz_I → zz_L → Prop} (hr : va_Run p l e R s m args below meth c H locs cells slots 0 0 (F0 m pc ls st) rest (zz_Ql D ca zz_dM (zz_A ca zz_dM aM IM LM H.size) aM P av) (zz_A ca zz_dM aM IM LM H.size))
    (kk : ∀ (r : Int64) (IM : zz_I) (LM : zz_L) (H : Heap) (locs : List Loc), P r IM LM → zl_B D ca s aC IC LC aM IM LM H locs → W p l e R s m args below meth c H locs cells slots Q (F0 m (pc + 3) ls (.long r :: rest))) : W p l e R s m args below meth c H locs cells slots Q (F0 m pc ls st) :=
  va_calll hr hB.2.1.2.2.2 (fun q _ h => zz_freeA hB.2.1 (fun _ h => h) q h) (zz_freeA hB.2.1 (fun _ h => h)) (fun r u t H1 locs1 ht hvm hw hb _ hk hS1 => kk r u.1 u.2 H1 locs1 hw ⟨zl_keep hB.1 (fun i j hi hj e => hB.2.2 j i hj hi e.symm) hk hS1, zz_back hB.2.1 (fun _ h => h) ht hvm hb hS1, hB.2.2⟩)
end ZW
