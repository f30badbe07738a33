def zp_X6_hasUnit (k0 : Nat) (x1 : Int32) (P : Int32 → Prop) (I : zz_I) (L : zz_L) : Prop := (x1 < 0 → P (0 : Int32)) ∧ (¬ x1 < 0 → ((I k0 3) ≤ x1 → P (0 : Int32)) ∧ (¬ (I k0 3) ≤ x1 → P (1 : Int32)))
set_option maxHeartbeats 4000000 in
set_option maxRecDepth 100000 in
theorem zq_X6_hasUnit {p : Program} {l : Launch} {e : Env} {s : State} {m : MethodId} {args : Array Value} {below : List Frame} {meth : Method} {c : Code} {D : va_G} {ca : Nat → ClassId} {A : Nat → Prop} {a : Nat → Nat}  {P : Int32 → Prop} {I : zz_I} {L : zz_L} {k0 : Nat} {x1 : Int32} (X : zz_X p s m meth c cX6_hasUnit RX6 (some .boolean) 2) (hA : ∀ q, s.heap.size ≤ q → A q) (hk0 : zz_isT k0)  (h : zp_X6_hasUnit k0 x1 P I L) : zz_Go p l e ({ frames := 0, cells := 0, slots := 0, locals := 0 } : Room) s m args below meth c 0 0 (MQ below (zz_Qi D ca zz_dC A a (fun r I9 L9 => P r ∧ I9 = I ∧ L9 = L)) args s 0 0 A) D ca zz_dC A 2 0 a [] [(0, .ref (a k0)), (1, .int x1)] I L := by
  obtain ⟨hx, hb, hml, hown, zw, hr, hlocks⟩ := id X
  intro H locs ls hB hl
  unfold zp_X6_hasUnit at h
  refine lv_iload_n hx hb dX6_hasUnit_0 rfl (lv_at hl 1 rfl) ?_
  refine lv_if_lt (tgt := 16) hx hb dX6_hasUnit_1 (by decide) (fun c1 => ?_) (fun c1 => ?_)
  · have h := h.1 c1
    refine lv_iconst (v := (0 : Int32)) hx hb dX6_hasUnit_16 (by decide) ?_
    exact zz_zret hx hb hr hlocks zz_bool0 hB ⟨h, rfl, rfl⟩ dX6_hasUnit_17
  · have h := h.2 c1
    refine lv_iload_n hx hb dX6_hasUnit_4 rfl (lv_at hl 1 rfl) ?_
    refine lv_aload_n hx hb dX6_hasUnit_5 rfl (lv_at hl 0 rfl) ?_
    refine zz_geti hx hb hown zw hB zF_X6_21 hk0.1 rfl dX6_hasUnit_6 ?_
    refine lv_icmp_ge (tgt := 16) hx hb dX6_hasUnit_9 (by decide) (fun c9 => ?_) (fun c9 => ?_)
    · have h := h.1 c9
      refine lv_iconst (v := (0 : Int32)) hx hb dX6_hasUnit_16 (by decide) ?_
      exact zz_zret hx hb hr hlocks zz_bool0 hB ⟨h, rfl, rfl⟩ dX6_hasUnit_17
    · have h := h.2 c9
      refine lv_iconst (v := (1 : Int32)) hx hb dX6_hasUnit_12 (by decide) ?_
      refine lv_goto (tgt := 17) hx hb dX6_hasUnit_13 (by decide) ?_
      exact zz_zret hx hb hr hlocks zz_bool1 hB ⟨h, rfl, rfl⟩ dX6_hasUnit_17
theorem zc_X6_hasUnit (l : Launch) (D : va_G) (ca : Nat → ClassId) (a : Nat → Nat) (I : zz_I) (L : zz_L) (sz : Nat) {k0 : Nat} {x1 : Int32} {P : Int32 → Prop} (hk0 : zz_isT k0) (h : zp_X6_hasUnit k0 x1 P I L) : Met l yX6_hasUnit [.code yX6_hasUnit cX6_hasUnit 2 (some .boolean)] ({ frames := 0, cells := 0, slots := 0, locals := 0 } : Room) (zz_Pre D ca zz_dC [.ref (a k0), .int x1] a I L sz) (zz_Qi D ca zz_dC (zz_A ca zz_dC a I L sz) a (fun r I9 L9 => P r ∧ I9 = I ∧ L9 = L)) 0 0 (zz_A ca zz_dC a I L sz) :=
  zz_start (by decide) (Nat.le_of_ble_eq_true rfl) (fun p e s m below meth c X hsz hA => zq_X6_hasUnit X hA hk0 h)
def zp_X0_isOpen (x1 : Int32) (x2 : Int32) (P : Int32 → Prop) (I : zz_I) (L : zz_L) : Prop := vp_in x1 25 ∧ (((((I 38 x1.toNatClampNeg) >>> (x2 &&& 31)) &&& (1 : Int32)) = 0 → P (0 : Int32)) ∧ (¬ (((I 38 x1.toNatClampNeg) >>> (x2 &&& 31)) &&& (1 : Int32)) = 0 → P (1 : Int32)))
set_option maxHeartbeats 4000000 in
set_option maxRecDepth 100000 in
theorem zq_X0_isOpen {p : Program} {l : Launch} {e : Env} {s : State} {m : MethodId} {args : Array Value} {below : List Frame} {meth : Method} {c : Code} {D : va_G} {ca : Nat → ClassId} {A : Nat → Prop} {a : Nat → Nat}  {P : Int32 → Prop} {I : zz_I} {L : zz_L} {x1 : Int32} {x2 : Int32} (X : zz_X p s m meth c cX0_isOpen RX0 (some .boolean) 3) (hA : ∀ q, s.heap.size ≤ q → A q)   (h : zp_X0_isOpen x1 x2 P I L) : zz_Go p l e ({ frames := 0, cells := 0, slots := 0, locals := 0 } : Room) s m args below meth c 0 0 (MQ below (zz_Qi D ca zz_dC A a (fun r I9 L9 => P r ∧ I9 = I ∧ L9 = L)) args s 0 0 A) D ca zz_dC A 3 0 a [] [(0, .ref (a 37)), (1, .int x1), (2, .int x2)] I L := by
  obtain ⟨hx, hb, hml, hown, zw, hr, hlocks⟩ := id X
  intro H locs ls hB hl
  unfold zp_X0_isOpen at h
  refine lv_aload_n hx hb dX0_isOpen_0 rfl (lv_at hl 0 rfl) ?_
  refine zz_getr (k' := 38) hx hb hown zw hB zF_X0_9 zdC_37 rfl rfl dX0_isOpen_1 ?_
  refine lv_iload_n hx hb dX0_isOpen_4 rfl (lv_at hl 1 rfl) ?_
  obtain ⟨hi5, h⟩ := h
  refine zz_iald hx hb hB zdC_38 hi5 dX0_isOpen_5 ?_
  refine lv_iload_n hx hb dX0_isOpen_6 rfl (lv_at hl 2 rfl) ?_
  refine lv_ishr hx hb dX0_isOpen_7 ?_
  refine lv_iconst (v := (1 : Int32)) hx hb dX0_isOpen_8 (by decide) ?_
  refine lv_iand hx hb dX0_isOpen_9 ?_
  refine lv_if_eq (tgt := 17) hx hb dX0_isOpen_10 (by decide) (fun c10 => ?_) (fun c10 => ?_)
  · have h := h.1 c10
    refine lv_iconst (v := (0 : Int32)) hx hb dX0_isOpen_17 (by decide) ?_
    exact zz_zret hx hb hr hlocks zz_bool0 hB ⟨h, rfl, rfl⟩ dX0_isOpen_18
  · have h := h.2 c10
    refine lv_iconst (v := (1 : Int32)) hx hb dX0_isOpen_13 (by decide) ?_
    refine lv_goto (tgt := 18) hx hb dX0_isOpen_14 (by decide) ?_
    exact zz_zret hx hb hr hlocks zz_bool1 hB ⟨h, rfl, rfl⟩ dX0_isOpen_18
theorem zc_X0_isOpen (l : Launch) (D : va_G) (ca : Nat → ClassId) (a : Nat → Nat) (I : zz_I) (L : zz_L) (sz : Nat) {x1 : Int32} {x2 : Int32} {P : Int32 → Prop}  (h : zp_X0_isOpen x1 x2 P I L) : Met l yX0_isOpen [.code yX0_isOpen cX0_isOpen 3 (some .boolean)] ({ frames := 0, cells := 0, slots := 0, locals := 0 } : Room) (zz_Pre D ca zz_dC [.ref (a 37), .int x1, .int x2] a I L sz) (zz_Qi D ca zz_dC (zz_A ca zz_dC a I L sz) a (fun r I9 L9 => P r ∧ I9 = I ∧ L9 = L)) 0 0 (zz_A ca zz_dC a I L sz) :=
  zz_start (by decide) (Nat.le_of_ble_eq_true rfl) (fun p e s m below meth c X hsz hA => zq_X0_isOpen X hA  h)
def zp_X0_nextUnit (x1 : Int32) (x2 : Int32) (P : Int32 → Prop) (I : zz_I) (L : zz_L) : Prop := vp_in x2 8 ∧ (P ((x1 + (I 41 x2.toNatClampNeg)) + (1 : Int32)))
set_option maxHeartbeats 4000000 in
set_option maxRecDepth 100000 in
theorem zq_X0_nextUnit {p : Program} {l : Launch} {e : Env} {s : State} {m : MethodId} {args : Array Value} {below : List Frame} {meth : Method} {c : Code} {D : va_G} {ca : Nat → ClassId} {A : Nat → Prop} {a : Nat → Nat}  {P : Int32 → Prop} {I : zz_I} {L : zz_L} {x1 : Int32} {x2 : Int32} (X : zz_X p s m meth c cX0_nextUnit RX0 (some .int) 3) (hA : ∀ q, s.heap.size ≤ q → A q)   (h : zp_X0_nextUnit x1 x2 P I L) : zz_Go p l e ({ frames := 0, cells := 0, slots := 0, locals := 0 } : Room) s m args below meth c 0 0 (MQ below (zz_Qi D ca zz_dC A a (fun r I9 L9 => P r ∧ I9 = I ∧ L9 = L)) args s 0 0 A) D ca zz_dC A 3 0 a [] [(0, .ref (a 37)), (1, .int x1), (2, .int x2)] I L := by
  obtain ⟨hx, hb, hml, hown, zw, hr, hlocks⟩ := id X
  intro H locs ls hB hl
  unfold zp_X0_nextUnit at h
  refine lv_iload_n hx hb dX0_nextUnit_0 rfl (lv_at hl 1 rfl) ?_
  refine lv_aload_n hx hb dX0_nextUnit_1 rfl (lv_at hl 0 rfl) ?_
  refine zz_getr (k' := 41) hx hb hown zw hB zF_X0_21 zdC_37 rfl rfl dX0_nextUnit_2 ?_
  refine lv_iload_n hx hb dX0_nextUnit_5 rfl (lv_at hl 2 rfl) ?_
  obtain ⟨hi6, h⟩ := h
  refine zz_iald hx hb hB zdC_41 hi6 dX0_nextUnit_6 ?_
  refine lv_iadd hx hb dX0_nextUnit_7 ?_
  refine lv_iconst (v := (1 : Int32)) hx hb dX0_nextUnit_8 (by decide) ?_
  refine lv_iadd hx hb dX0_nextUnit_9 ?_
  exact zz_iret hx hb hr hlocks hB ⟨h, rfl, rfl⟩ dX0_nextUnit_10
theorem zc_X0_nextUnit (l : Launch) (D : va_G) (ca : Nat → ClassId) (a : Nat → Nat) (I : zz_I) (L : zz_L) (sz : Nat) {x1 : Int32} {x2 : Int32} {P : Int32 → Prop}  (h : zp_X0_nextUnit x1 x2 P I L) : Met l yX0_nextUnit [.code yX0_nextUnit cX0_nextUnit 3 (some .int)] ({ frames := 0, cells := 0, slots := 0, locals := 0 } : Room) (zz_Pre D ca zz_dC [.ref (a 37), .int x1, .int x2] a I L sz) (zz_Qi D ca zz_dC (zz_A ca zz_dC a I L sz) a (fun r I9 L9 => P r ∧ I9 = I ∧ L9 = L)) 0 0 (zz_A ca zz_dC a I L sz) :=
  zz_start (by decide) (Nat.le_of_ble_eq_true rfl) (fun p e s m below meth c X hsz hA => zq_X0_nextUnit X hA  h)
def zp_X0_leadsOn (x1 : Int32) (x2 : Int32) (P : Int32 → Prop) (I : zz_I) (L : zz_L) : Prop := zp_X0_nextUnit x1 x2 (fun r3 => ((I 37 6) < r3 → P (1 : Int32)) ∧ (¬ (I 37 6) < r3 → vp_in r3 25 ∧ (vp_in x2 8 ∧ ((((I 38 r3.toNatClampNeg) &&& (I 40 x2.toNatClampNeg)) = 0 → P (0 : Int32)) ∧ (¬ ((I 38 r3.toNatClampNeg) &&& (I 40 x2.toNatClampNeg)) = 0 → P (1 : Int32)))))) I L
set_option maxHeartbeats 4000000 in
set_option maxRecDepth 100000 in
theorem zq_X0_leadsOn {p : Program} {l : Launch} {e : Env} {s : State} {m : MethodId} {args : Array Value} {below : List Frame} {meth : Method} {c : Code} {D : va_G} {ca : Nat → ClassId} {A : Nat → Prop} {a : Nat → Nat}  {P : Int32 → Prop} {I : zz_I} {L : zz_L} {x1 : Int32} {x2 : Int32} (X : zz_X p s m meth c cX0_leadsOn RX0 (some .boolean) 4) (hA : ∀ q, s.heap.size ≤ q → A q)   (h : zp_X0_leadsOn x1 x2 P I L) : zz_Go p l e ({ frames := 1, cells := 0, slots := 0, locals := 22 } : Room) s m args below meth c 0 0 (MQ below (zz_Qi D ca zz_dC A a (fun r I9 L9 => P r ∧ I9 = I ∧ L9 = L)) args s 0 0 A) D ca zz_dC A 4 0 a [] [(0, .ref (a 37)), (1, .int x1), (2, .int x2)] I L := by
  obtain ⟨hx, hb, hml, hown, zw, hr, hlocks⟩ := id X
  intro H locs ls hB hl
  unfold zp_X0_leadsOn at h
  refine lv_aload_n hx hb dX0_leadsOn_0 rfl (lv_at hl 0 rfl) ?_
  refine lv_iload_n hx hb dX0_leadsOn_1 rfl (lv_at hl 1 rfl) ?_
  refine lv_iload_n hx hb dX0_leadsOn_2 rfl (lv_at hl 2 rfl) ?_
  refine zz_goip hB hA (zz_runV (As := [.int x1, .int x2]) (rest := []) hx hb hml hown zw hB zM_X0_110 (zc_X0_nextUnit l D ca a I L H.size h) zdC_37 rfl rfl hl.1 rfl (Nat.le_of_ble_eq_true rfl) rfl rfl ⟨Nat.le_of_ble_eq_true rfl, Nat.le_of_ble_eq_true rfl⟩ dX0_leadsOn_3 ⟨Nat.zero_le _, Nat.zero_le _⟩) (fun r3 H locs h hB => ?_)
  refine lv_istore_n (lv' := [(3, .int r3), (0, .ref (a 37)), (1, .int x1), (2, .int x2)]) hx hb dX0_leadsOn_6 rfl hl (by decide) rfl (fun ls hl => ?_)
  refine lv_iload_n hx hb dX0_leadsOn_7 rfl (lv_at hl 0 rfl) ?_
  refine lv_aload_n hx hb dX0_leadsOn_8 rfl (lv_at hl 1 rfl) ?_
  refine zz_geti hx hb hown zw hB zF_X0_31 zdC_37 rfl dX0_leadsOn_9 ?_
  refine lv_icmp_gt (tgt := 31) hx hb dX0_leadsOn_12 (by decide) (fun c12 => ?_) (fun c12 => ?_)
  · have h := h.1 c12
    refine lv_iconst (v := (1 : Int32)) hx hb dX0_leadsOn_31 (by decide) ?_
    refine lv_goto (tgt := 36) hx hb dX0_leadsOn_32 (by decide) ?_
    exact zz_zret hx hb hr hlocks zz_bool1 hB ⟨h, rfl, rfl⟩ dX0_leadsOn_36
  · have h := h.2 c12
    refine lv_aload_n hx hb dX0_leadsOn_15 rfl (lv_at hl 1 rfl) ?_
    refine zz_getr (k' := 38) hx hb hown zw hB zF_X0_9 zdC_37 rfl rfl dX0_leadsOn_16 ?_
    refine lv_iload_n hx hb dX0_leadsOn_19 rfl (lv_at hl 0 rfl) ?_
    obtain ⟨hi20, h⟩ := h
    refine zz_iald hx hb hB zdC_38 hi20 dX0_leadsOn_20 ?_
    refine lv_aload_n hx hb dX0_leadsOn_21 rfl (lv_at hl 1 rfl) ?_
    refine zz_getr (k' := 40) hx hb hown zw hB zF_X0_18 zdC_37 rfl rfl dX0_leadsOn_22 ?_
    refine lv_iload_n hx hb dX0_leadsOn_25 rfl (lv_at hl 3 rfl) ?_
    obtain ⟨hi26, h⟩ := h
    refine zz_iald hx hb hB zdC_40 hi26 dX0_leadsOn_26 ?_
    refine lv_iand hx hb dX0_leadsOn_27 ?_
    refine lv_if_eq (tgt := 35) hx hb dX0_leadsOn_28 (by decide) (fun c28 => ?_) (fun c28 => ?_)
    · have h := h.1 c28
      refine lv_iconst (v := (0 : Int32)) hx hb dX0_leadsOn_35 (by decide) ?_
      exact zz_zret hx hb hr hlocks zz_bool0 hB ⟨h, rfl, rfl⟩ dX0_leadsOn_36
    · have h := h.2 c28
      refine lv_iconst (v := (1 : Int32)) hx hb dX0_leadsOn_31 (by decide) ?_
      refine lv_goto (tgt := 36) hx hb dX0_leadsOn_32 (by decide) ?_
      exact zz_zret hx hb hr hlocks zz_bool1 hB ⟨h, rfl, rfl⟩ dX0_leadsOn_36
theorem zc_X0_leadsOn (l : Launch) (D : va_G) (ca : Nat → ClassId) (a : Nat → Nat) (I : zz_I) (L : zz_L) (sz : Nat) {x1 : Int32} {x2 : Int32} {P : Int32 → Prop}  (h : zp_X0_leadsOn x1 x2 P I L) : Met l yX0_leadsOn [.code yX0_leadsOn cX0_leadsOn 4 (some .boolean)] ({ frames := 1, cells := 0, slots := 0, locals := 22 } : Room) (zz_Pre D ca zz_dC [.ref (a 37), .int x1, .int x2] a I L sz) (zz_Qi D ca zz_dC (zz_A ca zz_dC a I L sz) a (fun r I9 L9 => P r ∧ I9 = I ∧ L9 = L)) 0 0 (zz_A ca zz_dC a I L sz) :=
  zz_start (by decide) (Nat.le_of_ble_eq_true rfl) (fun p e s m below meth c X hsz hA => zq_X0_leadsOn X hA  h)
def zp_X6_countGaps_4b (K4 : Int32 → Int32 → Prop) (P : Int32 → Prop) (k0 : Nat) (x1 : Int32) (x2 : Int32) (I : zz_I) (L : zz_L) : Prop := ((I k0 3) ≤ x2 → P x1) ∧ (¬ (I k0 3) ≤ x2 → vp_in x2 24 ∧ ((¬ (I (k0 + 1) x2.toNatClampNeg) = (7 : Int32) → ∀ v26 : Int32, v26 = x2 + (1 : Int32) → (K4 x1 v26)) ∧ ((I (k0 + 1) x2.toNatClampNeg) = (7 : Int32) → ∀ v23 : Int32, v23 = x1 + (1 : Int32) → (∀ v26 : Int32, v26 = x2 + (1 : Int32) → (K4 v23 v26)))))
set_option maxHeartbeats 4000000 in
set_option maxRecDepth 100000 in
theorem zq_X6_countGaps_4b {p : Program} {l : Launch} {e : Env} {s : State} {m : MethodId} {args : Array Value} {below : List Frame} {meth : Method} {c : Code} {D : va_G} {ca : Nat → ClassId} {A : Nat → Prop} {a : Nat → Nat} {K4 : Int32 → Int32 → Prop} {P : Int32 → Prop} {I : zz_I} {L : zz_L} {k0 : Nat} {x1 : Int32} {x2 : Int32} (X : zz_X p s m meth c cX6_countGaps RX6 (some .int) 3) (hA : ∀ q, s.heap.size ≤ q → A q) (hk0 : zz_isT k0) (hK4 : ∀ (y1 : Int32) (y2 : Int32), K4 y1 y2 → zz_Go p l e ({ frames := 0, cells := 0, slots := 0, locals := 0 } : Room) s m args below meth c 0 0 (MQ below (zz_Qi D ca zz_dC A a (fun r I9 L9 => P r ∧ I9 = I ∧ L9 = L)) args s 0 0 A) D ca zz_dC A 3 4 a [] [(0, .ref (a k0)), (1, .int y1), (2, .int y2)] I L) (h : zp_X6_countGaps_4b K4 P k0 x1 x2 I L) : zz_Go p l e ({ frames := 0, cells := 0, slots := 0, locals := 0 } : Room) s m args below meth c 0 0 (MQ below (zz_Qi D ca zz_dC A a (fun r I9 L9 => P r ∧ I9 = I ∧ L9 = L)) args s 0 0 A) D ca zz_dC A 3 4 a [] [(0, .ref (a k0)), (1, .int x1), (2, .int x2)] I L := by
  obtain ⟨hx, hb, hml, hown, zw, hr, hlocks⟩ := id X
  intro H locs ls hB hl
  unfold zp_X6_countGaps_4b at h
  refine lv_iload_n hx hb dX6_countGaps_4 rfl (lv_at hl 2 rfl) ?_
  refine lv_aload_n hx hb dX6_countGaps_5 rfl (lv_at hl 0 rfl) ?_
  refine zz_geti hx hb hown zw hB zF_X6_21 hk0.1 rfl dX6_countGaps_6 ?_
  refine lv_icmp_ge (tgt := 32) hx hb dX6_countGaps_9 (by decide) (fun c9 => ?_) (fun c9 => ?_)
  · have h := h.1 c9
    refine lv_iload_n hx hb dX6_countGaps_32 rfl (lv_at hl 1 rfl) ?_
    exact zz_iret hx hb hr hlocks hB ⟨h, rfl, rfl⟩ dX6_countGaps_33
  · have h := h.2 c9
    refine lv_aload_n hx hb dX6_countGaps_12 rfl (lv_at hl 0 rfl) ?_
    refine zz_getr (k' := k0 + 1) hx hb hown zw hB zF_X6_9 hk0.1 rfl rfl dX6_countGaps_13 ?_
    refine lv_iload_n hx hb dX6_countGaps_16 rfl (lv_at hl 2 rfl) ?_
    obtain ⟨hi17, h⟩ := h
    refine zz_iald hx hb hB hk0.2.1 hi17 dX6_countGaps_17 ?_
    refine lv_bipush (v := (7 : Int32)) hx hb dX6_countGaps_18 (by decide) ?_
    refine lv_icmp_ne (tgt := 26) hx hb dX6_countGaps_20 (by decide) (fun c20 => ?_) (fun c20 => ?_)
    · have h := h.1 c20
      obtain ⟨v26, ev26⟩ : ∃ z : Int32, z = x2 + (1 : Int32) := ⟨_, rfl⟩
      have h := h v26 ev26
      refine lv_iinc (v := v26) (lv' := [(2, .int v26), (0, .ref (a k0)), (1, .int x1)]) hx hb dX6_countGaps_26 hl (k := 2) rfl (by rw [ev26]; rfl) (by decide) rfl (fun ls hl => ?_)
      refine lv_goto (tgt := 4) hx hb dX6_countGaps_29 (by decide) ?_
      exact hK4 _ _ h H locs ls hB (lv_sub hl [1, 2, 0] rfl)
    · have h := h.2 c20
      obtain ⟨v23, ev23⟩ : ∃ z : Int32, z = x1 + (1 : Int32) := ⟨_, rfl⟩
      have h := h v23 ev23
      refine lv_iinc (v := v23) (lv' := [(1, .int v23), (0, .ref (a k0)), (2, .int x2)]) hx hb dX6_countGaps_23 hl (k := 1) rfl (by rw [ev23]; rfl) (by decide) rfl (fun ls hl => ?_)
      obtain ⟨v26, ev26⟩ : ∃ z : Int32, z = x2 + (1 : Int32) := ⟨_, rfl⟩
      have h := h v26 ev26
      refine lv_iinc (v := v26) (lv' := [(2, .int v26), (1, .int v23), (0, .ref (a k0))]) hx hb dX6_countGaps_26 hl (k := 2) rfl (by rw [ev26]; rfl) (by decide) rfl (fun ls hl => ?_)
      refine lv_goto (tgt := 4) hx hb dX6_countGaps_29 (by decide) ?_
      exact hK4 _ _ h H locs ls hB (lv_sub hl [2, 1, 0] rfl)
def zp_X6_countGaps_4  (P : Int32 → Prop) (k0 : Nat) (x1 : Int32) (x2 : Int32) (I : zz_I) (L : zz_L) : Prop := ∃ (Inv : Int32 → Int32 → Prop) (μ : Int32 → Int32 → Nat), Inv x1 x2 ∧ ∀ (y1 : Int32) (y2 : Int32), Inv y1 y2 → zp_X6_countGaps_4b  (fun z1 z2 => Inv z1 z2 ∧ μ z1 z2 < μ y1 y2) P k0 y1 y2 I L
set_option maxHeartbeats 4000000 in
set_option maxRecDepth 100000 in
theorem zq_X6_countGaps_4 {p : Program} {l : Launch} {e : Env} {s : State} {m : MethodId} {args : Array Value} {below : List Frame} {meth : Method} {c : Code} {D : va_G} {ca : Nat → ClassId} {A : Nat → Prop} {a : Nat → Nat}  {P : Int32 → Prop} {I : zz_I} {L : zz_L} {k0 : Nat} {x1 : Int32} {x2 : Int32} (X : zz_X p s m meth c cX6_countGaps RX6 (some .int) 3) (hA : ∀ q, s.heap.size ≤ q → A q) (hk0 : zz_isT k0)  (h : zp_X6_countGaps_4  P k0 x1 x2 I L) : zz_Go p l e ({ frames := 0, cells := 0, slots := 0, locals := 0 } : Room) s m args below meth c 0 0 (MQ below (zz_Qi D ca zz_dC A a (fun r I9 L9 => P r ∧ I9 = I ∧ L9 = L)) args s 0 0 A) D ca zz_dC A 3 4 a [] [(0, .ref (a k0)), (1, .int x1), (2, .int x2)] I L := by
  unfold zp_X6_countGaps_4 at h
  obtain ⟨Inv, μ, h0, hs⟩ := h
  have key : ∀ (n9 : Nat) (y1 : Int32) (y2 : Int32), μ y1 y2 < n9 → Inv y1 y2 → zz_Go p l e ({ frames := 0, cells := 0, slots := 0, locals := 0 } : Room) s m args below meth c 0 0 (MQ below (zz_Qi D ca zz_dC A a (fun r I9 L9 => P r ∧ I9 = I ∧ L9 = L)) args s 0 0 A) D ca zz_dC A 3 4 a [] [(0, .ref (a k0)), (1, .int y1), (2, .int y2)] I L := by
    intro n9
    induction n9 with
    | zero => intro y1 y2 hn; exact absurd hn (Nat.not_lt_zero _)
    | succ n9 ih =>
      intro y1 y2 hn hi
      exact zq_X6_countGaps_4b (K4 := (fun z1 z2 => Inv z1 z2 ∧ μ z1 z2 < μ y1 y2)) X hA hk0  (fun z1 z2 hz => ih z1 z2 (Nat.lt_of_lt_of_le hz.2 (Nat.le_of_lt_succ hn)) hz.1) (hs y1 y2 hi)
  exact key _ x1 x2 (Nat.lt_succ_self _) h0
def zp_X6_countGaps (k0 : Nat) (P : Int32 → Prop) (I : zz_I) (L : zz_L) : Prop := zp_X6_countGaps_4 P k0 (0 : Int32) (0 : Int32) I L
set_option maxHeartbeats 4000000 in
set_option maxRecDepth 100000 in
theorem zq_X6_countGaps {p : Program} {l : Launch} {e : Env} {s : State} {m : MethodId} {args : Array Value} {below : List Frame} {meth : Method} {c : Code} {D : va_G} {ca : Nat → ClassId} {A : Nat → Prop} {a : Nat → Nat}  {P : Int32 → Prop} {I : zz_I} {L : zz_L} {k0 : Nat} (X : zz_X p s m meth c cX6_countGaps RX6 (some .int) 3) (hA : ∀ q, s.heap.size ≤ q → A q) (hk0 : zz_isT k0)  (h : zp_X6_countGaps k0 P I L) : zz_Go p l e ({ frames := 0, cells := 0, slots := 0, locals := 0 } : Room) s m args below meth c 0 0 (MQ below (zz_Qi D ca zz_dC A a (fun r I9 L9 => P r ∧ I9 = I ∧ L9 = L)) args s 0 0 A) D ca zz_dC A 3 0 a [] [(0, .ref (a k0))] I L := by
  obtain ⟨hx, hb, hml, hown, zw, hr, hlocks⟩ := id X
  intro H locs ls hB hl
  unfold zp_X6_countGaps at h
  refine lv_iconst (v := (0 : Int32)) hx hb dX6_countGaps_0 (by decide) ?_
  refine lv_istore_n (lv' := [(1, .int (0 : Int32)), (0, .ref (a k0))]) hx hb dX6_countGaps_1 rfl hl (by decide) rfl (fun ls hl => ?_)
  refine lv_iconst (v := (0 : Int32)) hx hb dX6_countGaps_2 (by decide) ?_
  refine lv_istore_n (lv' := [(2, .int (0 : Int32)), (1, .int (0 : Int32)), (0, .ref (a k0))]) hx hb dX6_countGaps_3 rfl hl (by decide) rfl (fun ls hl => ?_)
  exact zq_X6_countGaps_4 X hA hk0 h H locs ls hB (lv_sub hl [2, 1, 0] rfl)
theorem zc_X6_countGaps (l : Launch) (D : va_G) (ca : Nat → ClassId) (a : Nat → Nat) (I : zz_I) (L : zz_L) (sz : Nat) {k0 : Nat} {P : Int32 → Prop} (hk0 : zz_isT k0) (h : zp_X6_countGaps k0 P I L) : Met l yX6_countGaps [.code yX6_countGaps cX6_countGaps 3 (some .int)] ({ frames := 0, cells := 0, slots := 0, locals := 0 } : Room) (zz_Pre D ca zz_dC [.ref (a k0)] a I L sz) (zz_Qi D ca zz_dC (zz_A ca zz_dC a I L sz) a (fun r I9 L9 => P r ∧ I9 = I ∧ L9 = L)) 0 0 (zz_A ca zz_dC a I L sz) :=
  zz_start (by decide) (Nat.le_of_ble_eq_true rfl) (fun p e s m below meth c X hsz hA => zq_X6_countGaps X hA hk0 h)
def zp_X6_isFree_18b (K18 : Int32 → Prop) (P : Int32 → Prop) (k0 : Nat) (x1 : Int32) (x2 : Int32) (x3 : Int32) (I : zz_I) (L : zz_L) : Prop := (x2 ≤ x3 → P (1 : Int32)) ∧ (¬ x2 ≤ x3 → vp_in (x1 + x3) 24 ∧ (((I (k0 + 1) (x1 + x3).toNatClampNeg) = (7 : Int32) → ∀ v38 : Int32, v38 = x3 + (1 : Int32) → (K18 v38)) ∧ (¬ (I (k0 + 1) (x1 + x3).toNatClampNeg) = (7 : Int32) → P (0 : Int32))))
set_option maxHeartbeats 4000000 in
set_option maxRecDepth 100000 in
theorem zq_X6_isFree_18b {p : Program} {l : Launch} {e : Env} {s : State} {m : MethodId} {args : Array Value} {below : List Frame} {meth : Method} {c : Code} {D : va_G} {ca : Nat → ClassId} {A : Nat → Prop} {a : Nat → Nat} {K18 : Int32 → Prop} {P : Int32 → Prop} {I : zz_I} {L : zz_L} {k0 : Nat} {x1 : Int32} {x2 : Int32} {x3 : Int32} (X : zz_X p s m meth c cX6_isFree RX6 (some .boolean) 4) (hA : ∀ q, s.heap.size ≤ q → A q) (hk0 : zz_isT k0) (hK18 : ∀ (y3 : Int32), K18 y3 → zz_Go p l e ({ frames := 0, cells := 0, slots := 0, locals := 0 } : Room) s m args below meth c 0 0 (MQ below (zz_Qi D ca zz_dC A a (fun r I9 L9 => P r ∧ I9 = I ∧ L9 = L)) args s 0 0 A) D ca zz_dC A 4 18 a [] [(0, .ref (a k0)), (1, .int x1), (2, .int x2), (3, .int y3)] I L) (h : zp_X6_isFree_18b K18 P k0 x1 x2 x3 I L) : zz_Go p l e ({ frames := 0, cells := 0, slots := 0, locals := 0 } : Room) s m args below meth c 0 0 (MQ below (zz_Qi D ca zz_dC A a (fun r I9 L9 => P r ∧ I9 = I ∧ L9 = L)) args s 0 0 A) D ca zz_dC A 4 18 a [] [(0, .ref (a k0)), (1, .int x1), (2, .int x2), (3, .int x3)] I L := by
  obtain ⟨hx, hb, hml, hown, zw, hr, hlocks⟩ := id X
  intro H locs ls hB hl
  unfold zp_X6_isFree_18b at h
  refine lv_iload_n hx hb dX6_isFree_18 rfl (lv_at hl 3 rfl) ?_
  refine lv_iload_n hx hb dX6_isFree_19 rfl (lv_at hl 2 rfl) ?_
  refine lv_icmp_ge (tgt := 44) hx hb dX6_isFree_20 (by decide) (fun c20 => ?_) (fun c20 => ?_)
  · have h := h.1 c20
    refine lv_iconst (v := (1 : Int32)) hx hb dX6_isFree_44 (by decide) ?_
    exact zz_zret hx hb hr hlocks zz_bool1 hB ⟨h, rfl, rfl⟩ dX6_isFree_45
  · have h := h.2 c20
    refine lv_aload_n hx hb dX6_isFree_23 rfl (lv_at hl 0 rfl) ?_
    refine zz_getr (k' := k0 + 1) hx hb hown zw hB zF_X6_9 hk0.1 rfl rfl dX6_isFree_24 ?_
    refine lv_iload_n hx hb dX6_isFree_27 rfl (lv_at hl 1 rfl) ?_
    refine lv_iload_n hx hb dX6_isFree_28 rfl (lv_at hl 3 rfl) ?_
    refine lv_iadd hx hb dX6_isFree_29 ?_
    obtain ⟨hi30, h⟩ := h
    refine zz_iald hx hb hB hk0.2.1 hi30 dX6_isFree_30 ?_
    refine lv_bipush (v := (7 : Int32)) hx hb dX6_isFree_31 (by decide) ?_
    refine lv_icmp_eq (tgt := 38) hx hb dX6_isFree_33 (by decide) (fun c33 => ?_) (fun c33 => ?_)
    · have h := h.1 c33
      obtain ⟨v38, ev38⟩ : ∃ z : Int32, z = x3 + (1 : Int32) := ⟨_, rfl⟩
      have h := h v38 ev38
      refine lv_iinc (v := v38) (lv' := [(3, .int v38), (0, .ref (a k0)), (1, .int x1), (2, .int x2)]) hx hb dX6_isFree_38 hl (k := 3) rfl (by rw [ev38]; rfl) (by decide) rfl (fun ls hl => ?_)
      refine lv_goto (tgt := 18) hx hb dX6_isFree_41 (by decide) ?_
      exact hK18 _ h H locs ls hB (lv_sub hl [1, 2, 3, 0] rfl)
    · have h := h.2 c33
      refine lv_iconst (v := (0 : Int32)) hx hb dX6_isFree_36 (by decide) ?_
      exact zz_zret hx hb hr hlocks zz_bool0 hB ⟨h, rfl, rfl⟩ dX6_isFree_37
def zp_X6_isFree_18  (P : Int32 → Prop) (k0 : Nat) (x1 : Int32) (x2 : Int32) (x3 : Int32) (I : zz_I) (L : zz_L) : Prop := ∃ (Inv : Int32 → Prop) (μ : Int32 → Nat), Inv x3 ∧ ∀ (y3 : Int32), Inv y3 → zp_X6_isFree_18b  (fun z3 => Inv z3 ∧ μ z3 < μ y3) P k0 x1 x2 y3 I L
set_option maxHeartbeats 4000000 in
set_option maxRecDepth 100000 in
theorem zq_X6_isFree_18 {p : Program} {l : Launch} {e : Env} {s : State} {m : MethodId} {args : Array Value} {below : List Frame} {meth : Method} {c : Code} {D : va_G} {ca : Nat → ClassId} {A : Nat → Prop} {a : Nat → Nat}  {P : Int32 → Prop} {I : zz_I} {L : zz_L} {k0 : Nat} {x1 : Int32} {x2 : Int32} {x3 : Int32} (X : zz_X p s m meth c cX6_isFree RX6 (some .boolean) 4) (hA : ∀ q, s.heap.size ≤ q → A q) (hk0 : zz_isT k0)  (h : zp_X6_isFree_18  P k0 x1 x2 x3 I L) : zz_Go p l e ({ frames := 0, cells := 0, slots := 0, locals := 0 } : Room) s m args below meth c 0 0 (MQ below (zz_Qi D ca zz_dC A a (fun r I9 L9 => P r ∧ I9 = I ∧ L9 = L)) args s 0 0 A) D ca zz_dC A 4 18 a [] [(0, .ref (a k0)), (1, .int x1), (2, .int x2), (3, .int x3)] I L := by
  unfold zp_X6_isFree_18 at h
  obtain ⟨Inv, μ, h0, hs⟩ := h
  have key : ∀ (n9 : Nat) (y3 : Int32), μ y3 < n9 → Inv y3 → zz_Go p l e ({ frames := 0, cells := 0, slots := 0, locals := 0 } : Room) s m args below meth c 0 0 (MQ below (zz_Qi D ca zz_dC A a (fun r I9 L9 => P r ∧ I9 = I ∧ L9 = L)) args s 0 0 A) D ca zz_dC A 4 18 a [] [(0, .ref (a k0)), (1, .int x1), (2, .int x2), (3, .int y3)] I L := by
    intro n9
    induction n9 with
    | zero => intro y3 hn; exact absurd hn (Nat.not_lt_zero _)
    | succ n9 ih =>
      intro y3 hn hi
      exact zq_X6_isFree_18b (K18 := (fun z3 => Inv z3 ∧ μ z3 < μ y3)) X hA hk0  (fun z3 hz => ih z3 (Nat.lt_of_lt_of_le hz.2 (Nat.le_of_lt_succ hn)) hz.1) (hs y3 hi)
  exact key _ x3 (Nat.lt_succ_self _) h0
def zp_X6_isFree (k0 : Nat) (x1 : Int32) (x2 : Int32) (P : Int32 → Prop) (I : zz_I) (L : zz_L) : Prop := (x1 < 0 → P (0 : Int32)) ∧ (¬ x1 < 0 → ((x1 + x2) ≤ (I k0 3) → zp_X6_isFree_18 P k0 x1 x2 (0 : Int32) I L) ∧ (¬ (x1 + x2) ≤ (I k0 3) → P (0 : Int32)))
set_option maxHeartbeats 4000000 in
set_option maxRecDepth 100000 in
theorem zq_X6_isFree {p : Program} {l : Launch} {e : Env} {s : State} {m : MethodId} {args : Array Value} {below : List Frame} {meth : Method} {c : Code} {D : va_G} {ca : Nat → ClassId} {A : Nat → Prop} {a : Nat → Nat}  {P : Int32 → Prop} {I : zz_I} {L : zz_L} {k0 : Nat} {x1 : Int32} {x2 : Int32} (X : zz_X p s m meth c cX6_isFree RX6 (some .boolean) 4) (hA : ∀ q, s.heap.size ≤ q → A q) (hk0 : zz_isT k0)  (h : zp_X6_isFree k0 x1 x2 P I L) : zz_Go p l e ({ frames := 0, cells := 0, slots := 0, locals := 0 } : Room) s m args below meth c 0 0 (MQ below (zz_Qi D ca zz_dC A a (fun r I9 L9 => P r ∧ I9 = I ∧ L9 = L)) args s 0 0 A) D ca zz_dC A 4 0 a [] [(0, .ref (a k0)), (1, .int x1), (2, .int x2)] I L := by
  obtain ⟨hx, hb, hml, hown, zw, hr, hlocks⟩ := id X
  intro H locs ls hB hl
  unfold zp_X6_isFree at h
  refine lv_iload_n hx hb dX6_isFree_0 rfl (lv_at hl 1 rfl) ?_
  refine lv_if_lt (tgt := 14) hx hb dX6_isFree_1 (by decide) (fun c1 => ?_) (fun c1 => ?_)
  · have h := h.1 c1
    refine lv_iconst (v := (0 : Int32)) hx hb dX6_isFree_14 (by decide) ?_
    exact zz_zret hx hb hr hlocks zz_bool0 hB ⟨h, rfl, rfl⟩ dX6_isFree_15
  · have h := h.2 c1
    refine lv_iload_n hx hb dX6_isFree_4 rfl (lv_at hl 1 rfl) ?_
    refine lv_iload_n hx hb dX6_isFree_5 rfl (lv_at hl 2 rfl) ?_
    refine lv_iadd hx hb dX6_isFree_6 ?_
    refine lv_aload_n hx hb dX6_isFree_7 rfl (lv_at hl 0 rfl) ?_
    refine zz_geti hx hb hown zw hB zF_X6_21 hk0.1 rfl dX6_isFree_8 ?_
    refine lv_icmp_le (tgt := 16) hx hb dX6_isFree_11 (by decide) (fun c11 => ?_) (fun c11 => ?_)
    · have h := h.1 c11
      refine lv_iconst (v := (0 : Int32)) hx hb dX6_isFree_16 (by decide) ?_
      refine lv_istore_n (lv' := [(3, .int (0 : Int32)), (0, .ref (a k0)), (1, .int x1), (2, .int x2)]) hx hb dX6_isFree_17 rfl hl (by decide) rfl (fun ls hl => ?_)
      exact zq_X6_isFree_18 X hA hk0 h H locs ls hB (lv_sub hl [1, 2, 3, 0] rfl)
    · have h := h.2 c11
      refine lv_iconst (v := (0 : Int32)) hx hb dX6_isFree_14 (by decide) ?_
      exact zz_zret hx hb hr hlocks zz_bool0 hB ⟨h, rfl, rfl⟩ dX6_isFree_15
theorem zc_X6_isFree (l : Launch) (D : va_G) (ca : Nat → ClassId) (a : Nat → Nat) (I : zz_I) (L : zz_L) (sz : Nat) {k0 : Nat} {x1 : Int32} {x2 : Int32} {P : Int32 → Prop} (hk0 : zz_isT k0) (h : zp_X6_isFree k0 x1 x2 P I L) : Met l yX6_isFree [.code yX6_isFree cX6_isFree 4 (some .boolean)] ({ frames := 0, cells := 0, slots := 0, locals := 0 } : Room) (zz_Pre D ca zz_dC [.ref (a k0), .int x1, .int x2] a I L sz) (zz_Qi D ca zz_dC (zz_A ca zz_dC a I L sz) a (fun r I9 L9 => P r ∧ I9 = I ∧ L9 = L)) 0 0 (zz_A ca zz_dC a I L sz) :=
  zz_start (by decide) (Nat.le_of_ble_eq_true rfl) (fun p e s m below meth c X hsz hA => zq_X6_isFree X hA hk0 h)
def zp_X6_putSign_3b (K3 : Int32 → zz_I → zz_L → Prop) (P : zz_I → zz_L → Prop) (k0 : Nat) (x1 : Int32) (x2 : Int32) (x3 : Int32) (x4 : Int32) (I : zz_I) (L : zz_L) : Prop := (x3 ≤ x4 → P I L) ∧ (¬ x3 ≤ x4 → zp_X6_hasUnit k0 (x1 + x4) (fun r14 => (r14 = 0 → P I L) ∧ (¬ r14 = 0 → (¬ x4 = 0 → vp_in (x1 + x4) 24 ∧ (∀ I39 : zz_I, I39 = zz_up I (k0 + 1) (x1 + x4).toNatClampNeg (8 : Int32) → (∀ v40 : Int32, v40 = x4 + (1 : Int32) → (K3 v40 I39 L)))) ∧ (x4 = 0 → vp_in (x1 + x4) 24 ∧ (∀ I39 : zz_I, I39 = zz_up I (k0 + 1) (x1 + x4).toNatClampNeg x2 → (∀ v40 : Int32, v40 = x4 + (1 : Int32) → (K3 v40 I39 L)))))) I L)
set_option maxHeartbeats 4000000 in
set_option maxRecDepth 100000 in
theorem zq_X6_putSign_3b {p : Program} {l : Launch} {e : Env} {s : State} {m : MethodId} {args : Array Value} {below : List Frame} {meth : Method} {c : Code} {D : va_G} {ca : Nat → ClassId} {A : Nat → Prop} {a : Nat → Nat} {K3 : Int32 → zz_I → zz_L → Prop} {P : zz_I → zz_L → Prop} {I : zz_I} {L : zz_L} {k0 : Nat} {x1 : Int32} {x2 : Int32} {x3 : Int32} {x4 : Int32} (X : zz_X p s m meth c cX6_putSign RX6 none 5) (hA : ∀ q, s.heap.size ≤ q → A q) (hk0 : zz_isT k0) (hK3 : ∀ (y4 : Int32) (I8 : zz_I) (L8 : zz_L), K3 y4 I8 L8 → zz_Go p l e ({ frames := 1, cells := 0, slots := 0, locals := 21 } : Room) s m args below meth c 0 0 (MQ below (zz_Qv D ca zz_dC A a P) args s 0 0 A) D ca zz_dC A 5 3 a [] [(0, .ref (a k0)), (1, .int x1), (2, .int x2), (3, .int x3), (4, .int y4)] I8 L8) (h : zp_X6_putSign_3b K3 P k0 x1 x2 x3 x4 I L) : zz_Go p l e ({ frames := 1, cells := 0, slots := 0, locals := 21 } : Room) s m args below meth c 0 0 (MQ below (zz_Qv D ca zz_dC A a P) args s 0 0 A) D ca zz_dC A 5 3 a [] [(0, .ref (a k0)), (1, .int x1), (2, .int x2), (3, .int x3), (4, .int x4)] I L := by
  obtain ⟨hx, hb, hml, hown, zw, hr, hlocks⟩ := id X
  intro H locs ls hB hl
  unfold zp_X6_putSign_3b at h
  refine lv_iload hx hb dX6_putSign_3 (lv_at hl 4 rfl) ?_
  refine lv_iload_n hx hb dX6_putSign_5 rfl (lv_at hl 3 rfl) ?_
  refine lv_icmp_ge (tgt := 46) hx hb dX6_putSign_6 (by decide) (fun c6 => ?_) (fun c6 => ?_)
  · have h := h.1 c6
    exact zz_vret hx hb hr hlocks hB h dX6_putSign_46
  · have h := h.2 c6
    refine lv_aload_n hx hb dX6_putSign_9 rfl (lv_at hl 0 rfl) ?_
    refine lv_iload_n hx hb dX6_putSign_10 rfl (lv_at hl 1 rfl) ?_
    refine lv_iload hx hb dX6_putSign_11 (lv_at hl 4 rfl) ?_
    refine lv_iadd hx hb dX6_putSign_13 ?_
    refine zz_goip hB hA (zz_runV (As := [.int (x1 + x4)]) (rest := []) hx hb hml hown zw hB zM_X6_40 (zc_X6_hasUnit l D ca a I L H.size hk0 h) hk0.1 rfl rfl hl.1 rfl (Nat.le_of_ble_eq_true rfl) rfl rfl ⟨Nat.le_of_ble_eq_true rfl, Nat.le_of_ble_eq_true rfl⟩ dX6_putSign_14 ⟨Nat.zero_le _, Nat.zero_le _⟩) (fun r14 H locs h hB => ?_)
    refine lv_if_eq (tgt := 46) hx hb dX6_putSign_17 (by decide) (fun c17 => ?_) (fun c17 => ?_)
    · have h := h.1 c17
      exact zz_vret hx hb hr hlocks hB h dX6_putSign_46
    · have h := h.2 c17
      refine lv_aload_n hx hb dX6_putSign_20 rfl (lv_at hl 0 rfl) ?_
      refine zz_getr (k' := k0 + 1) hx hb hown zw hB zF_X6_9 hk0.1 rfl rfl dX6_putSign_21 ?_
      refine lv_iload_n hx hb dX6_putSign_24 rfl (lv_at hl 1 rfl) ?_
      refine lv_iload hx hb dX6_putSign_25 (lv_at hl 4 rfl) ?_
      refine lv_iadd hx hb dX6_putSign_27 ?_
      refine lv_iload hx hb dX6_putSign_28 (lv_at hl 4 rfl) ?_
      refine lv_if_ne (tgt := 37) hx hb dX6_putSign_30 (by decide) (fun c30 => ?_) (fun c30 => ?_)
      · have h := h.1 c30
        refine lv_bipush (v := (8 : Int32)) hx hb dX6_putSign_37 (by decide) ?_
        obtain ⟨hi39, h⟩ := h
        refine zz_iast hx hb hB hk0.2.1 hi39 dX6_putSign_39 (fun H locs hB => ?_)
        obtain ⟨I39, eI39⟩ : ∃ z : zz_I, z = zz_up I (k0 + 1) (x1 + x4).toNatClampNeg (8 : Int32) := ⟨_, rfl⟩
        rw [← eI39] at hB
        have h := h I39 eI39
        obtain ⟨v40, ev40⟩ : ∃ z : Int32, z = x4 + (1 : Int32) := ⟨_, rfl⟩
        have h := h v40 ev40
        refine lv_iinc (v := v40) (lv' := [(4, .int v40), (0, .ref (a k0)), (1, .int x1), (2, .int x2), (3, .int x3)]) hx hb dX6_putSign_40 hl (k := 4) rfl (by rw [ev40]; rfl) (by decide) rfl (fun ls hl => ?_)
        refine lv_goto (tgt := 3) hx hb dX6_putSign_43 (by decide) ?_
        exact hK3 _ _ _ h H locs ls hB (lv_sub hl [1, 2, 3, 4, 0] rfl)
      · have h := h.2 c30
        refine lv_iload_n hx hb dX6_putSign_33 rfl (lv_at hl 2 rfl) ?_
        refine lv_goto (tgt := 39) hx hb dX6_putSign_34 (by decide) ?_
        obtain ⟨hi39, h⟩ := h
        refine zz_iast hx hb hB hk0.2.1 hi39 dX6_putSign_39 (fun H locs hB => ?_)
        obtain ⟨I39, eI39⟩ : ∃ z : zz_I, z = zz_up I (k0 + 1) (x1 + x4).toNatClampNeg x2 := ⟨_, rfl⟩
        rw [← eI39] at hB
        have h := h I39 eI39
        obtain ⟨v40, ev40⟩ : ∃ z : Int32, z = x4 + (1 : Int32) := ⟨_, rfl⟩
        have h := h v40 ev40
        refine lv_iinc (v := v40) (lv' := [(4, .int v40), (0, .ref (a k0)), (1, .int x1), (2, .int x2), (3, .int x3)]) hx hb dX6_putSign_40 hl (k := 4) rfl (by rw [ev40]; rfl) (by decide) rfl (fun ls hl => ?_)
        refine lv_goto (tgt := 3) hx hb dX6_putSign_43 (by decide) ?_
        exact hK3 _ _ _ h H locs ls hB (lv_sub hl [1, 2, 3, 4, 0] rfl)
def zp_X6_putSign_3  (P : zz_I → zz_L → Prop) (k0 : Nat) (x1 : Int32) (x2 : Int32) (x3 : Int32) (x4 : Int32) (I : zz_I) (L : zz_L) : Prop := ∃ (Inv : Int32 → zz_I → zz_L → Prop) (μ : Int32 → zz_I → zz_L → Nat), Inv x4 I L ∧ ∀ (y4 : Int32) (I8 : zz_I) (L8 : zz_L), Inv y4 I8 L8 → zp_X6_putSign_3b  (fun z4 I7 L7 => Inv z4 I7 L7 ∧ μ z4 I7 L7 < μ y4 I8 L8) P k0 x1 x2 x3 y4 I8 L8
set_option maxHeartbeats 4000000 in
set_option maxRecDepth 100000 in
theorem zq_X6_putSign_3 {p : Program} {l : Launch} {e : Env} {s : State} {m : MethodId} {args : Array Value} {below : List Frame} {meth : Method} {c : Code} {D : va_G} {ca : Nat → ClassId} {A : Nat → Prop} {a : Nat → Nat}  {P : zz_I → zz_L → Prop} {I : zz_I} {L : zz_L} {k0 : Nat} {x1 : Int32} {x2 : Int32} {x3 : Int32} {x4 : Int32} (X : zz_X p s m meth c cX6_putSign RX6 none 5) (hA : ∀ q, s.heap.size ≤ q → A q) (hk0 : zz_isT k0)  (h : zp_X6_putSign_3  P k0 x1 x2 x3 x4 I L) : zz_Go p l e ({ frames := 1, cells := 0, slots := 0, locals := 21 } : Room) s m args below meth c 0 0 (MQ below (zz_Qv D ca zz_dC A a P) args s 0 0 A) D ca zz_dC A 5 3 a [] [(0, .ref (a k0)), (1, .int x1), (2, .int x2), (3, .int x3), (4, .int x4)] I L := by
  unfold zp_X6_putSign_3 at h
  obtain ⟨Inv, μ, h0, hs⟩ := h
  have key : ∀ (n9 : Nat) (y4 : Int32) (I8 : zz_I) (L8 : zz_L), μ y4 I8 L8 < n9 → Inv y4 I8 L8 → zz_Go p l e ({ frames := 1, cells := 0, slots := 0, locals := 21 } : Room) s m args below meth c 0 0 (MQ below (zz_Qv D ca zz_dC A a P) args s 0 0 A) D ca zz_dC A 5 3 a [] [(0, .ref (a k0)), (1, .int x1), (2, .int x2), (3, .int x3), (4, .int y4)] I8 L8 := by
    intro n9
    induction n9 with
    | zero => intro y4 I8 L8 hn; exact absurd hn (Nat.not_lt_zero _)
    | succ n9 ih =>
      intro y4 I8 L8 hn hi
      exact zq_X6_putSign_3b (K3 := (fun z4 I7 L7 => Inv z4 I7 L7 ∧ μ z4 I7 L7 < μ y4 I8 L8)) X hA hk0  (fun z4 I7 L7 hz => ih z4 I7 L7 (Nat.lt_of_lt_of_le hz.2 (Nat.le_of_lt_succ hn)) hz.1) (hs y4 I8 L8 hi)
  exact key _ x4 I L (Nat.lt_succ_self _) h0
def zp_X6_putSign (k0 : Nat) (x1 : Int32) (x2 : Int32) (x3 : Int32) (P : zz_I → zz_L → Prop) (I : zz_I) (L : zz_L) : Prop := zp_X6_putSign_3 P k0 x1 x2 x3 (0 : Int32) I L
set_option maxHeartbeats 4000000 in
set_option maxRecDepth 100000 in
theorem zq_X6_putSign {p : Program} {l : Launch} {e : Env} {s : State} {m : MethodId} {args : Array Value} {below : List Frame} {meth : Method} {c : Code} {D : va_G} {ca : Nat → ClassId} {A : Nat → Prop} {a : Nat → Nat}  {P : zz_I → zz_L → Prop} {I : zz_I} {L : zz_L} {k0 : Nat} {x1 : Int32} {x2 : Int32} {x3 : Int32} (X : zz_X p s m meth c cX6_putSign RX6 none 5) (hA : ∀ q, s.heap.size ≤ q → A q) (hk0 : zz_isT k0)  (h : zp_X6_putSign k0 x1 x2 x3 P I L) : zz_Go p l e ({ frames := 1, cells := 0, slots := 0, locals := 21 } : Room) s m args below meth c 0 0 (MQ below (zz_Qv D ca zz_dC A a P) args s 0 0 A) D ca zz_dC A 5 0 a [] [(0, .ref (a k0)), (1, .int x1), (2, .int x2), (3, .int x3)] I L := by
  obtain ⟨hx, hb, hml, hown, zw, hr, hlocks⟩ := id X
  intro H locs ls hB hl
  unfold zp_X6_putSign at h
  refine lv_iconst (v := (0 : Int32)) hx hb dX6_putSign_0 (by decide) ?_
  refine lv_istore (lv' := [(4, .int (0 : Int32)), (0, .ref (a k0)), (1, .int x1), (2, .int x2), (3, .int x3)]) hx hb dX6_putSign_1 hl (by decide) rfl (fun ls hl => ?_)
  exact zq_X6_putSign_3 X hA hk0 h H locs ls hB (lv_sub hl [1, 2, 3, 4, 0] rfl)
theorem zc_X6_putSign (l : Launch) (D : va_G) (ca : Nat → ClassId) (a : Nat → Nat) (I : zz_I) (L : zz_L) (sz : Nat) {k0 : Nat} {x1 : Int32} {x2 : Int32} {x3 : Int32} {P : zz_I → zz_L → Prop} (hk0 : zz_isT k0) (h : zp_X6_putSign k0 x1 x2 x3 P I L) : Met l yX6_putSign [.code yX6_putSign cX6_putSign 5 none] ({ frames := 1, cells := 0, slots := 0, locals := 21 } : Room) (zz_Pre D ca zz_dC [.ref (a k0), .int x1, .int x2, .int x3] a I L sz) (zz_Qv D ca zz_dC (zz_A ca zz_dC a I L sz) a P) 0 0 (zz_A ca zz_dC a I L sz) :=
  zz_start (by decide) (Nat.le_of_ble_eq_true rfl) (fun p e s m below meth c X hsz hA => zq_X6_putSign X hA hk0 h)
def zp_X6_putGap_2b (K2 : Int32 → zz_I → zz_L → Prop) (P : zz_I → zz_L → Prop) (k0 : Nat) (x1 : Int32) (x2 : Int32) (x3 : Int32) (I : zz_I) (L : zz_L) : Prop := (x2 ≤ x3 → P I L) ∧ (¬ x2 ≤ x3 → zp_X6_hasUnit k0 (x1 + x3) (fun r11 => (r11 = 0 → P I L) ∧ (¬ r11 = 0 → vp_in (x1 + x3) 24 ∧ (∀ I26 : zz_I, I26 = zz_up I (k0 + 1) (x1 + x3).toNatClampNeg (7 : Int32) → (∀ v27 : Int32, v27 = x3 + (1 : Int32) → (K2 v27 I26 L))))) I L)
set_option maxHeartbeats 4000000 in
set_option maxRecDepth 100000 in
theorem zq_X6_putGap_2b {p : Program} {l : Launch} {e : Env} {s : State} {m : MethodId} {args : Array Value} {below : List Frame} {meth : Method} {c : Code} {D : va_G} {ca : Nat → ClassId} {A : Nat → Prop} {a : Nat → Nat} {K2 : Int32 → zz_I → zz_L → Prop} {P : zz_I → zz_L → Prop} {I : zz_I} {L : zz_L} {k0 : Nat} {x1 : Int32} {x2 : Int32} {x3 : Int32} (X : zz_X p s m meth c cX6_putGap RX6 none 4) (hA : ∀ q, s.heap.size ≤ q → A q) (hk0 : zz_isT k0) (hK2 : ∀ (y3 : Int32) (I8 : zz_I) (L8 : zz_L), K2 y3 I8 L8 → zz_Go p l e ({ frames := 1, cells := 0, slots := 0, locals := 21 } : Room) s m args below meth c 0 0 (MQ below (zz_Qv D ca zz_dC A a P) args s 0 0 A) D ca zz_dC A 4 2 a [] [(0, .ref (a k0)), (1, .int x1), (2, .int x2), (3, .int y3)] I8 L8) (h : zp_X6_putGap_2b K2 P k0 x1 x2 x3 I L) : zz_Go p l e ({ frames := 1, cells := 0, slots := 0, locals := 21 } : Room) s m args below meth c 0 0 (MQ below (zz_Qv D ca zz_dC A a P) args s 0 0 A) D ca zz_dC A 4 2 a [] [(0, .ref (a k0)), (1, .int x1), (2, .int x2), (3, .int x3)] I L := by
  obtain ⟨hx, hb, hml, hown, zw, hr, hlocks⟩ := id X
  intro H locs ls hB hl
  unfold zp_X6_putGap_2b at h
  refine lv_iload_n hx hb dX6_putGap_2 rfl (lv_at hl 3 rfl) ?_
  refine lv_iload_n hx hb dX6_putGap_3 rfl (lv_at hl 2 rfl) ?_
  refine lv_icmp_ge (tgt := 33) hx hb dX6_putGap_4 (by decide) (fun c4 => ?_) (fun c4 => ?_)
  · have h := h.1 c4
    exact zz_vret hx hb hr hlocks hB h dX6_putGap_33
  · have h := h.2 c4
    refine lv_aload_n hx hb dX6_putGap_7 rfl (lv_at hl 0 rfl) ?_
    refine lv_iload_n hx hb dX6_putGap_8 rfl (lv_at hl 1 rfl) ?_
    refine lv_iload_n hx hb dX6_putGap_9 rfl (lv_at hl 3 rfl) ?_
    refine lv_iadd hx hb dX6_putGap_10 ?_
    refine zz_goip hB hA (zz_runV (As := [.int (x1 + x3)]) (rest := []) hx hb hml hown zw hB zM_X6_40 (zc_X6_hasUnit l D ca a I L H.size hk0 h) hk0.1 rfl rfl hl.1 rfl (Nat.le_of_ble_eq_true rfl) rfl rfl ⟨Nat.le_of_ble_eq_true rfl, Nat.le_of_ble_eq_true rfl⟩ dX6_putGap_11 ⟨Nat.zero_le _, Nat.zero_le _⟩) (fun r11 H locs h hB => ?_)
    refine lv_if_eq (tgt := 33) hx hb dX6_putGap_14 (by decide) (fun c14 => ?_) (fun c14 => ?_)
    · have h := h.1 c14
      exact zz_vret hx hb hr hlocks hB h dX6_putGap_33
    · have h := h.2 c14
      refine lv_aload_n hx hb dX6_putGap_17 rfl (lv_at hl 0 rfl) ?_
      refine zz_getr (k' := k0 + 1) hx hb hown zw hB zF_X6_9 hk0.1 rfl rfl dX6_putGap_18 ?_
      refine lv_iload_n hx hb dX6_putGap_21 rfl (lv_at hl 1 rfl) ?_
      refine lv_iload_n hx hb dX6_putGap_22 rfl (lv_at hl 3 rfl) ?_
      refine lv_iadd hx hb dX6_putGap_23 ?_
      refine lv_bipush (v := (7 : Int32)) hx hb dX6_putGap_24 (by decide) ?_
      obtain ⟨hi26, h⟩ := h
      refine zz_iast hx hb hB hk0.2.1 hi26 dX6_putGap_26 (fun H locs hB => ?_)
      obtain ⟨I26, eI26⟩ : ∃ z : zz_I, z = zz_up I (k0 + 1) (x1 + x3).toNatClampNeg (7 : Int32) := ⟨_, rfl⟩
      rw [← eI26] at hB
      have h := h I26 eI26
      obtain ⟨v27, ev27⟩ : ∃ z : Int32, z = x3 + (1 : Int32) := ⟨_, rfl⟩
      have h := h v27 ev27
      refine lv_iinc (v := v27) (lv' := [(3, .int v27), (0, .ref (a k0)), (1, .int x1), (2, .int x2)]) hx hb dX6_putGap_27 hl (k := 3) rfl (by rw [ev27]; rfl) (by decide) rfl (fun ls hl => ?_)
      refine lv_goto (tgt := 2) hx hb dX6_putGap_30 (by decide) ?_
      exact hK2 _ _ _ h H locs ls hB (lv_sub hl [1, 2, 3, 0] rfl)
def zp_X6_putGap_2  (P : zz_I → zz_L → Prop) (k0 : Nat) (x1 : Int32) (x2 : Int32) (x3 : Int32) (I : zz_I) (L : zz_L) : Prop := ∃ (Inv : Int32 → zz_I → zz_L → Prop) (μ : Int32 → zz_I → zz_L → Nat), Inv x3 I L ∧ ∀ (y3 : Int32) (I8 : zz_I) (L8 : zz_L), Inv y3 I8 L8 → zp_X6_putGap_2b  (fun z3 I7 L7 => Inv z3 I7 L7 ∧ μ z3 I7 L7 < μ y3 I8 L8) P k0 x1 x2 y3 I8 L8
set_option maxHeartbeats 4000000 in
set_option maxRecDepth 100000 in
theorem zq_X6_putGap_2 {p : Program} {l : Launch} {e : Env} {s : State} {m : MethodId} {args : Array Value} {below : List Frame} {meth : Method} {c : Code} {D : va_G} {ca : Nat → ClassId} {A : Nat → Prop} {a : Nat → Nat}  {P : zz_I → zz_L → Prop} {I : zz_I} {L : zz_L} {k0 : Nat} {x1 : Int32} {x2 : Int32} {x3 : Int32} (X : zz_X p s m meth c cX6_putGap RX6 none 4) (hA : ∀ q, s.heap.size ≤ q → A q) (hk0 : zz_isT k0)  (h : zp_X6_putGap_2  P k0 x1 x2 x3 I L) : zz_Go p l e ({ frames := 1, cells := 0, slots := 0, locals := 21 } : Room) s m args below meth c 0 0 (MQ below (zz_Qv D ca zz_dC A a P) args s 0 0 A) D ca zz_dC A 4 2 a [] [(0, .ref (a k0)), (1, .int x1), (2, .int x2), (3, .int x3)] I L := by
  unfold zp_X6_putGap_2 at h
  obtain ⟨Inv, μ, h0, hs⟩ := h
  have key : ∀ (n9 : Nat) (y3 : Int32) (I8 : zz_I) (L8 : zz_L), μ y3 I8 L8 < n9 → Inv y3 I8 L8 → zz_Go p l e ({ frames := 1, cells := 0, slots := 0, locals := 21 } : Room) s m args below meth c 0 0 (MQ below (zz_Qv D ca zz_dC A a P) args s 0 0 A) D ca zz_dC A 4 2 a [] [(0, .ref (a k0)), (1, .int x1), (2, .int x2), (3, .int y3)] I8 L8 := by
    intro n9
    induction n9 with
    | zero => intro y3 I8 L8 hn; exact absurd hn (Nat.not_lt_zero _)
    | succ n9 ih =>
      intro y3 I8 L8 hn hi
      exact zq_X6_putGap_2b (K2 := (fun z3 I7 L7 => Inv z3 I7 L7 ∧ μ z3 I7 L7 < μ y3 I8 L8)) X hA hk0  (fun z3 I7 L7 hz => ih z3 I7 L7 (Nat.lt_of_lt_of_le hz.2 (Nat.le_of_lt_succ hn)) hz.1) (hs y3 I8 L8 hi)
  exact key _ x3 I L (Nat.lt_succ_self _) h0
def zp_X6_putGap (k0 : Nat) (x1 : Int32) (x2 : Int32) (P : zz_I → zz_L → Prop) (I : zz_I) (L : zz_L) : Prop := zp_X6_putGap_2 P k0 x1 x2 (0 : Int32) I L
set_option maxHeartbeats 4000000 in
set_option maxRecDepth 100000 in
theorem zq_X6_putGap {p : Program} {l : Launch} {e : Env} {s : State} {m : MethodId} {args : Array Value} {below : List Frame} {meth : Method} {c : Code} {D : va_G} {ca : Nat → ClassId} {A : Nat → Prop} {a : Nat → Nat}  {P : zz_I → zz_L → Prop} {I : zz_I} {L : zz_L} {k0 : Nat} {x1 : Int32} {x2 : Int32} (X : zz_X p s m meth c cX6_putGap RX6 none 4) (hA : ∀ q, s.heap.size ≤ q → A q) (hk0 : zz_isT k0)  (h : zp_X6_putGap k0 x1 x2 P I L) : zz_Go p l e ({ frames := 1, cells := 0, slots := 0, locals := 21 } : Room) s m args below meth c 0 0 (MQ below (zz_Qv D ca zz_dC A a P) args s 0 0 A) D ca zz_dC A 4 0 a [] [(0, .ref (a k0)), (1, .int x1), (2, .int x2)] I L := by
  obtain ⟨hx, hb, hml, hown, zw, hr, hlocks⟩ := id X
  intro H locs ls hB hl
  unfold zp_X6_putGap at h
  refine lv_iconst (v := (0 : Int32)) hx hb dX6_putGap_0 (by decide) ?_
  refine lv_istore_n (lv' := [(3, .int (0 : Int32)), (0, .ref (a k0)), (1, .int x1), (2, .int x2)]) hx hb dX6_putGap_1 rfl hl (by decide) rfl (fun ls hl => ?_)
  exact zq_X6_putGap_2 X hA hk0 h H locs ls hB (lv_sub hl [1, 2, 3, 0] rfl)
theorem zc_X6_putGap (l : Launch) (D : va_G) (ca : Nat → ClassId) (a : Nat → Nat) (I : zz_I) (L : zz_L) (sz : Nat) {k0 : Nat} {x1 : Int32} {x2 : Int32} {P : zz_I → zz_L → Prop} (hk0 : zz_isT k0) (h : zp_X6_putGap k0 x1 x2 P I L) : Met l yX6_putGap [.code yX6_putGap cX6_putGap 4 none] ({ frames := 1, cells := 0, slots := 0, locals := 21 } : Room) (zz_Pre D ca zz_dC [.ref (a k0), .int x1, .int x2] a I L sz) (zz_Qv D ca zz_dC (zz_A ca zz_dC a I L sz) a P) 0 0 (zz_A ca zz_dC a I L sz) :=
  zz_start (by decide) (Nat.le_of_ble_eq_true rfl) (fun p e s m below meth c X hsz hA => zq_X6_putGap X hA hk0 h)
def zp_X6_copyFrom (k0 : Nat) (k1 : Nat) (P : zz_I → zz_L → Prop) (I : zz_I) (L : zz_L) : Prop := ∀ I12 : zz_I, I12 = zz_cp I (k1 + 1) (k0 + 1) 24 → (∀ I27 : zz_I, I27 = zz_cp I12 (k1 + 2) (k0 + 2) 9 → (∀ I42 : zz_I, I42 = zz_cp I27 (k1 + 3) (k0 + 3) 8 → (∀ I50 : zz_I, I50 = zz_up I42 k0 3 (I42 k1 3) → (∀ I58 : zz_I, I58 = zz_up I50 k0 4 (I50 k1 4) → (P I58 L)))))
set_option maxHeartbeats 4000000 in
set_option maxRecDepth 100000 in
theorem zq_X6_copyFrom {p : Program} {l : Launch} {e : Env} {s : State} {m : MethodId} {args : Array Value} {below : List Frame} {meth : Method} {c : Code} {D : va_G} {ca : Nat → ClassId} {A : Nat → Prop} {a : Nat → Nat}  {P : zz_I → zz_L → Prop} {I : zz_I} {L : zz_L} {k0 : Nat} {k1 : Nat} (X : zz_X p s m meth c cX6_copyFrom RX6 none 2) (hA : ∀ q, s.heap.size ≤ q → A q) (hk0 : zz_isT k0) (hk1 : zz_isT k1)  (h : zp_X6_copyFrom k0 k1 P I L) : zz_Go p l e ({ frames := 1, cells := 0, slots := 0, locals := 40 } : Room) s m args below meth c 0 0 (MQ below (zz_Qv D ca zz_dC A a P) args s 0 0 A) D ca zz_dC A 2 0 a [] [(0, .ref (a k0)), (1, .ref (a k1))] I L := by
  obtain ⟨hx, hb, hml, hown, zw, hr, hlocks⟩ := id X
  intro H locs ls hB hl
  unfold zp_X6_copyFrom at h
  refine lv_aload_n hx hb dX6_copyFrom_0 rfl (lv_at hl 1 rfl) ?_
  refine zz_getr (k' := k1 + 1) hx hb hown zw hB zF_X6_9 hk1.1 rfl rfl dX6_copyFrom_1 ?_
  refine lv_iconst (v := (0 : Int32)) hx hb dX6_copyFrom_4 (by decide) ?_
  refine lv_aload_n hx hb dX6_copyFrom_5 rfl (lv_at hl 0 rfl) ?_
  refine zz_getr (k' := k0 + 1) hx hb hown zw hB zF_X6_9 hk0.1 rfl rfl dX6_copyFrom_6 ?_
  refine lv_iconst (v := (0 : Int32)) hx hb dX6_copyFrom_9 (by decide) ?_
  refine lv_bipush (v := (24 : Int32)) hx hb dX6_copyFrom_10 (by decide) ?_
  refine zz_copy (nn := 24) hx hb (hml.trans hl.1.symm) hown zw zk_X6_acp hB hk1.2.1 hk0.2.1 rfl (Nat.le_of_ble_eq_true rfl) (Nat.le_of_ble_eq_true rfl) (Nat.le_of_ble_eq_true rfl) (Nat.le_of_ble_eq_true rfl) (Nat.le_of_ble_eq_true rfl) dX6_copyFrom_12 (fun H locs hB => ?_)
  obtain ⟨I12, eI12⟩ : ∃ z : zz_I, z = zz_cp I (k1 + 1) (k0 + 1) 24 := ⟨_, rfl⟩
  rw [← eI12] at hB
  have h := h I12 eI12
  refine lv_aload_n hx hb dX6_copyFrom_15 rfl (lv_at hl 1 rfl) ?_
  refine zz_getr (k' := k1 + 2) hx hb hown zw hB zF_X6_15 hk1.1 rfl rfl dX6_copyFrom_16 ?_
  refine lv_iconst (v := (0 : Int32)) hx hb dX6_copyFrom_19 (by decide) ?_
  refine lv_aload_n hx hb dX6_copyFrom_20 rfl (lv_at hl 0 rfl) ?_
  refine zz_getr (k' := k0 + 2) hx hb hown zw hB zF_X6_15 hk0.1 rfl rfl dX6_copyFrom_21 ?_
  refine lv_iconst (v := (0 : Int32)) hx hb dX6_copyFrom_24 (by decide) ?_
  refine lv_bipush (v := (9 : Int32)) hx hb dX6_copyFrom_25 (by decide) ?_
  refine zz_copy (nn := 9) hx hb (hml.trans hl.1.symm) hown zw zk_X6_acp hB hk1.2.2.1 hk0.2.2.1 rfl (Nat.le_of_ble_eq_true rfl) (Nat.le_of_ble_eq_true rfl) (Nat.le_of_ble_eq_true rfl) (Nat.le_of_ble_eq_true rfl) (Nat.le_of_ble_eq_true rfl) dX6_copyFrom_27 (fun H locs hB => ?_)
  obtain ⟨I27, eI27⟩ : ∃ z : zz_I, z = zz_cp I12 (k1 + 2) (k0 + 2) 9 := ⟨_, rfl⟩
  rw [← eI27] at hB
  have h := h I27 eI27
  refine lv_aload_n hx hb dX6_copyFrom_30 rfl (lv_at hl 1 rfl) ?_
  refine zz_getr (k' := k1 + 3) hx hb hown zw hB zF_X6_18 hk1.1 rfl rfl dX6_copyFrom_31 ?_
  refine lv_iconst (v := (0 : Int32)) hx hb dX6_copyFrom_34 (by decide) ?_
  refine lv_aload_n hx hb dX6_copyFrom_35 rfl (lv_at hl 0 rfl) ?_
  refine zz_getr (k' := k0 + 3) hx hb hown zw hB zF_X6_18 hk0.1 rfl rfl dX6_copyFrom_36 ?_
  refine lv_iconst (v := (0 : Int32)) hx hb dX6_copyFrom_39 (by decide) ?_
  refine lv_bipush (v := (8 : Int32)) hx hb dX6_copyFrom_40 (by decide) ?_
  refine zz_copy (nn := 8) hx hb (hml.trans hl.1.symm) hown zw zk_X6_acp hB hk1.2.2.2 hk0.2.2.2 rfl (Nat.le_of_ble_eq_true rfl) (Nat.le_of_ble_eq_true rfl) (Nat.le_of_ble_eq_true rfl) (Nat.le_of_ble_eq_true rfl) (Nat.le_of_ble_eq_true rfl) dX6_copyFrom_42 (fun H locs hB => ?_)
  obtain ⟨I42, eI42⟩ : ∃ z : zz_I, z = zz_cp I27 (k1 + 3) (k0 + 3) 8 := ⟨_, rfl⟩
  rw [← eI42] at hB
  have h := h I42 eI42
  refine lv_aload_n hx hb dX6_copyFrom_45 rfl (lv_at hl 0 rfl) ?_
  refine lv_aload_n hx hb dX6_copyFrom_46 rfl (lv_at hl 1 rfl) ?_
  refine zz_geti hx hb hown zw hB zF_X6_21 hk1.1 rfl dX6_copyFrom_47 ?_
  refine zz_puti hx hb hown zw hB zP_X6_21 hk0.1 rfl dX6_copyFrom_50 (fun H locs hB => ?_)
  obtain ⟨I50, eI50⟩ : ∃ z : zz_I, z = zz_up I42 k0 3 (I42 k1 3) := ⟨_, rfl⟩
  rw [← eI50] at hB
  have h := h I50 eI50
  refine lv_aload_n hx hb dX6_copyFrom_53 rfl (lv_at hl 0 rfl) ?_
  refine lv_aload_n hx hb dX6_copyFrom_54 rfl (lv_at hl 1 rfl) ?_
  refine zz_geti hx hb hown zw hB zF_X6_25 hk1.1 rfl dX6_copyFrom_55 ?_
  refine zz_puti hx hb hown zw hB zP_X6_25 hk0.1 rfl dX6_copyFrom_58 (fun H locs hB => ?_)
  obtain ⟨I58, eI58⟩ : ∃ z : zz_I, z = zz_up I50 k0 4 (I50 k1 4) := ⟨_, rfl⟩
  rw [← eI58] at hB
  have h := h I58 eI58
  exact zz_vret hx hb hr hlocks hB h dX6_copyFrom_61
theorem zc_X6_copyFrom (l : Launch) (D : va_G) (ca : Nat → ClassId) (a : Nat → Nat) (I : zz_I) (L : zz_L) (sz : Nat) {k0 : Nat} {k1 : Nat} {P : zz_I → zz_L → Prop} (hk0 : zz_isT k0) (hk1 : zz_isT k1) (h : zp_X6_copyFrom k0 k1 P I L) : Met l yX6_copyFrom [.code yX6_copyFrom cX6_copyFrom 2 none] ({ frames := 1, cells := 0, slots := 0, locals := 40 } : Room) (zz_Pre D ca zz_dC [.ref (a k0), .ref (a k1)] a I L sz) (zz_Qv D ca zz_dC (zz_A ca zz_dC a I L sz) a P) 0 0 (zz_A ca zz_dC a I L sz) :=
  zz_start (by decide) (Nat.le_of_ble_eq_true rfl) (fun p e s m below meth c X hsz hA => zq_X6_copyFrom X hA hk0 hk1 h)
