theorem zn_L_7 : zr_NW RL 7 7 13 [.null, .null, .null, .null, .null, .null, .null, .null, .null, .null, .int 0, .int 0, .long 0] := ⟨RX7, TX7, tyX7, rfl, zl_X7, tyX7_ok, (List.mem_of_getElem? (i := 104) (by decide +kernel)), (List.mem_of_getElem? (i := 105) (by decide +kernel)), (List.mem_of_getElem? (i := 91) (by decide +kernel)), by decide +kernel⟩
theorem zn_L_10 : zr_NW RL 10 8 36 [.int 0, .null, .int 0, .int 0, .null, .int 0, .null, .null, .null, .null, .null, .int 0, .null, .null, .null, .null, .null, .null, .null, .null, .null, .int 0, .null, .null, .int 0, .null, .null, .null, .long 0, .null, .null, .null, .null, .int 0, .int 0, .null] := ⟨RX8, TX8, tyX8, rfl, zl_X8, tyX8_ok, (List.mem_of_getElem? (i := 804) (by decide +kernel)), (List.mem_of_getElem? (i := 805) (by decide +kernel)), (List.mem_of_getElem? (i := 100) (by decide +kernel)), by decide +kernel⟩
theorem zi_L_9 : zr_MI RL 9 yX7_init cX7_init 1 := ⟨⟨(List.mem_of_getElem? (i := 108) (by decide +kernel)), (List.mem_of_getElem? (i := 91) (by decide +kernel)), Or.inl (List.mem_of_getElem? (i := 106) (by decide +kernel)), by decide, by decide +kernel⟩, (List.mem_of_getElem? (i := 107) (by decide +kernel)), rfl⟩
theorem zi_L_12 : zr_MI RL 12 yX8_init cX8_init 2 := ⟨⟨(List.mem_of_getElem? (i := 808) (by decide +kernel)), (List.mem_of_getElem? (i := 100) (by decide +kernel)), Or.inl (List.mem_of_getElem? (i := 806) (by decide +kernel)), by decide, by decide +kernel⟩, (List.mem_of_getElem? (i := 807) (by decide +kernel)), rfl⟩
theorem zt_X0 : ∀ w ∈ u_ws RX0 TX0 9, w ∈ lw_tbl := fun w h => (List.mem_filter.mp (zl_X0 w h)).1
theorem zu_X0 : Cond.instantiable RX0 9 ∈ lw_tbl := List.mem_of_getElem? (i := 282) (by decide +kernel)
theorem zt_X1 : ∀ w ∈ u_ws RX1 TX1 5, w ∈ lw_tbl := fun w h => (List.mem_filter.mp (zl_X1 w h)).1
theorem zu_X1 : Cond.instantiable RX1 5 ∈ lw_tbl := List.mem_of_getElem? (i := 234) (by decide +kernel)
theorem zt_X2 : ∀ w ∈ u_ws RX2 TX2 7, w ∈ lw_tbl := fun w h => (List.mem_filter.mp (zl_X2 w h)).1
theorem zu_X2 : Cond.instantiable RX2 7 ∈ lw_tbl := List.mem_of_getElem? (i := 119) (by decide +kernel)
theorem zt_X3 : ∀ w ∈ u_ws RX3 TX3 5, w ∈ lw_tbl := fun w h => (List.mem_filter.mp (zl_X3 w h)).1
theorem zu_X3 : Cond.instantiable RX3 5 ∈ lw_tbl := List.mem_of_getElem? (i := 322) (by decide +kernel)
theorem zt_X4 : ∀ w ∈ u_ws RX4 TX4 7, w ∈ lw_tbl := fun w h => (List.mem_filter.mp (zl_X4 w h)).1
theorem zu_X4 : Cond.instantiable RX4 7 ∈ lw_tbl := List.mem_of_getElem? (i := 113) (by decide +kernel)
theorem zt_X5 : ∀ w ∈ u_ws RX5 TX5 4, w ∈ lw_tbl := fun w h => (List.mem_filter.mp (zl_X5 w h)).1
theorem zu_X5 : Cond.instantiable RX5 4 ∈ lw_tbl := List.mem_of_getElem? (i := 257) (by decide +kernel)
theorem zt_X6 : ∀ w ∈ u_ws RX6 TX6 5, w ∈ lw_tbl := fun w h => (List.mem_filter.mp (zl_X6 w h)).1
theorem zu_X6 : Cond.instantiable RX6 5 ∈ lw_tbl := List.mem_of_getElem? (i := 168) (by decide +kernel)
theorem zt_X7 : ∀ w ∈ u_ws RX7 TX7 13, w ∈ lw_tbl := fun w h => (List.mem_filter.mp (zl_X7 w h)).1
theorem zu_X7 : Cond.instantiable RX7 13 ∈ lw_tbl := List.mem_of_getElem? (i := 105) (by decide +kernel)
theorem zt_X8 : ∀ w ∈ u_ws RX8 TX8 36, w ∈ lw_tbl := fun w h => (List.mem_filter.mp (zl_X8 w h)).1
theorem zu_X8 : Cond.instantiable RX8 36 ∈ lw_tbl := List.mem_of_getElem? (i := 805) (by decide +kernel)
theorem zt_st : Cond.laysStatic "WornLetters" "FACTORIALS" "[J" ∈ lw_tbl := List.mem_of_getElem? (i := 772) (by decide +kernel)
theorem zt_wi : Cond.initialized "WornLetters" ∈ lw_tbl := List.mem_of_getElem? (i := 91) (by decide +kernel)
/-- the ints of a new object of the class -/
def zz_I0 : zz_I := fun k => if k = 4 then zz_fill (fun _ _ => 0) 0 7 1 0 else if k = 15 then zz_fill (fun _ _ => 0) 0 7 1 0 else if k = 12 then zz_fill (fun _ _ => 0) 0 9 1 0 else if k = 23 then zz_fill (fun _ _ => 0) 0 9 1 0 else if k = 27 then zz_fill (fun _ _ => 0) 0 9 1 0 else if k = 50 then zz_fill (fun _ _ => 0) 0 9 1 0 else if k = 54 then zz_fill (fun _ _ => 0) 0 9 1 0 else fun _ => 0
def zz_L0 : zz_L := fun _ _ => 0
def zz_a0 (q : Nat) (u : Nat → Nat) : Nat → Nat := fun i => if i = 0 then q else u (i - 1)
theorem zz_a0_0 (q : Nat) (u : Nat → Nat) : zz_a0 q u 0 = q := rfl
theorem zz_a0_1 (q : Nat) (u : Nat → Nat) : zz_a0 q u 1 = u 0 := rfl
theorem zz_a0_2 (q : Nat) (u : Nat → Nat) : zz_a0 q u 2 = u 1 := rfl
theorem zz_a0_3 (q : Nat) (u : Nat → Nat) : zz_a0 q u 3 = u 2 := rfl
theorem zz_a0_4 (q : Nat) (u : Nat → Nat) : zz_a0 q u 4 = u 3 := rfl
theorem zz_a0_5 (q : Nat) (u : Nat → Nat) : zz_a0 q u 5 = u 4 := rfl
theorem zz_a0_6 (q : Nat) (u : Nat → Nat) : zz_a0 q u 6 = u 5 := rfl
theorem zz_a0_7 (q : Nat) (u : Nat → Nat) : zz_a0 q u 7 = u 6 := rfl
theorem zz_a0_8 (q : Nat) (u : Nat → Nat) : zz_a0 q u 8 = u 7 := rfl
theorem zz_a0_9 (q : Nat) (u : Nat → Nat) : zz_a0 q u 9 = u 8 := rfl
theorem zz_a0_10 (q : Nat) (u : Nat → Nat) : zz_a0 q u 10 = u 9 := rfl
theorem zz_a0_11 (q : Nat) (u : Nat → Nat) : zz_a0 q u 11 = u 10 := rfl
theorem zz_a0_12 (q : Nat) (u : Nat → Nat) : zz_a0 q u 12 = u 11 := rfl
theorem zz_a0_13 (q : Nat) (u : Nat → Nat) : zz_a0 q u 13 = u 12 := rfl
theorem zz_a0_14 (q : Nat) (u : Nat → Nat) : zz_a0 q u 14 = u 13 := rfl
theorem zz_a0_15 (q : Nat) (u : Nat → Nat) : zz_a0 q u 15 = u 14 := rfl
theorem zz_a0_16 (q : Nat) (u : Nat → Nat) : zz_a0 q u 16 = u 15 := rfl
theorem zz_a0_17 (q : Nat) (u : Nat → Nat) : zz_a0 q u 17 = u 16 := rfl
theorem zz_a0_18 (q : Nat) (u : Nat → Nat) : zz_a0 q u 18 = u 17 := rfl
theorem zz_a0_19 (q : Nat) (u : Nat → Nat) : zz_a0 q u 19 = u 18 := rfl
theorem zz_a0_20 (q : Nat) (u : Nat → Nat) : zz_a0 q u 20 = u 19 := rfl
theorem zz_a0_21 (q : Nat) (u : Nat → Nat) : zz_a0 q u 21 = u 20 := rfl
theorem zz_a0_22 (q : Nat) (u : Nat → Nat) : zz_a0 q u 22 = u 21 := rfl
theorem zz_a0_23 (q : Nat) (u : Nat → Nat) : zz_a0 q u 23 = u 22 := rfl
theorem zz_a0_24 (q : Nat) (u : Nat → Nat) : zz_a0 q u 24 = u 23 := rfl
theorem zz_a0_25 (q : Nat) (u : Nat → Nat) : zz_a0 q u 25 = u 24 := rfl
theorem zz_a0_26 (q : Nat) (u : Nat → Nat) : zz_a0 q u 26 = u 25 := rfl
theorem zz_a0_27 (q : Nat) (u : Nat → Nat) : zz_a0 q u 27 = u 26 := rfl
theorem zz_a0_28 (q : Nat) (u : Nat → Nat) : zz_a0 q u 28 = u 27 := rfl
theorem zz_a0_29 (q : Nat) (u : Nat → Nat) : zz_a0 q u 29 = u 28 := rfl
theorem zz_a0_30 (q : Nat) (u : Nat → Nat) : zz_a0 q u 30 = u 29 := rfl
theorem zz_a0_31 (q : Nat) (u : Nat → Nat) : zz_a0 q u 31 = u 30 := rfl
theorem zz_a0_32 (q : Nat) (u : Nat → Nat) : zz_a0 q u 32 = u 31 := rfl
theorem zz_a0_33 (q : Nat) (u : Nat → Nat) : zz_a0 q u 33 = u 32 := rfl
theorem zz_a0_34 (q : Nat) (u : Nat → Nat) : zz_a0 q u 34 = u 33 := rfl
theorem zz_a0_35 (q : Nat) (u : Nat → Nat) : zz_a0 q u 35 = u 34 := rfl
theorem zz_a0_36 (q : Nat) (u : Nat → Nat) : zz_a0 q u 36 = u 35 := rfl
theorem zz_a0_37 (q : Nat) (u : Nat → Nat) : zz_a0 q u 37 = u 36 := rfl
theorem zz_a0_38 (q : Nat) (u : Nat → Nat) : zz_a0 q u 38 = u 37 := rfl
theorem zz_a0_39 (q : Nat) (u : Nat → Nat) : zz_a0 q u 39 = u 38 := rfl
theorem zz_a0_40 (q : Nat) (u : Nat → Nat) : zz_a0 q u 40 = u 39 := rfl
theorem zz_a0_41 (q : Nat) (u : Nat → Nat) : zz_a0 q u 41 = u 40 := rfl
theorem zz_a0_42 (q : Nat) (u : Nat → Nat) : zz_a0 q u 42 = u 41 := rfl
theorem zz_a0_43 (q : Nat) (u : Nat → Nat) : zz_a0 q u 43 = u 42 := rfl
theorem zz_a0_44 (q : Nat) (u : Nat → Nat) : zz_a0 q u 44 = u 43 := rfl
theorem zz_a0_45 (q : Nat) (u : Nat → Nat) : zz_a0 q u 45 = u 44 := rfl
theorem zz_a0_46 (q : Nat) (u : Nat → Nat) : zz_a0 q u 46 = u 45 := rfl
theorem zz_a0_47 (q : Nat) (u : Nat → Nat) : zz_a0 q u 47 = u 46 := rfl
theorem zz_a0_48 (q : Nat) (u : Nat → Nat) : zz_a0 q u 48 = u 47 := rfl
theorem zz_a0_49 (q : Nat) (u : Nat → Nat) : zz_a0 q u 49 = u 48 := rfl
theorem zz_a0_50 (q : Nat) (u : Nat → Nat) : zz_a0 q u 50 = u 49 := rfl
theorem zz_a0_51 (q : Nat) (u : Nat → Nat) : zz_a0 q u 51 = u 50 := rfl
theorem zz_a0_52 (q : Nat) (u : Nat → Nat) : zz_a0 q u 52 = u 51 := rfl
theorem zz_a0_53 (q : Nat) (u : Nat → Nat) : zz_a0 q u 53 = u 52 := rfl
theorem zz_a0_54 (q : Nat) (u : Nat → Nat) : zz_a0 q u 54 = u 53 := rfl
theorem zz_a0_55 (q : Nat) (u : Nat → Nat) : zz_a0 q u 55 = u 54 := rfl
theorem zz_I0_0 : zz_I0 0 = (fun _ => 0) := rfl
theorem zz_I0_1 : zz_I0 1 = (fun _ => 0) := rfl
theorem zz_I0_2 : zz_I0 2 = (fun _ => 0) := rfl
theorem zz_I0_3 : zz_I0 3 = (fun _ => 0) := rfl
theorem zz_I0_4 : zz_I0 4 = zz_fill (fun _ _ => 0) 0 7 1 0 := rfl
theorem zz_I0_5 : zz_I0 5 = (fun _ => 0) := rfl
theorem zz_I0_6 : zz_I0 6 = (fun _ => 0) := rfl
theorem zz_I0_7 : zz_I0 7 = (fun _ => 0) := rfl
theorem zz_I0_8 : zz_I0 8 = (fun _ => 0) := rfl
theorem zz_I0_9 : zz_I0 9 = (fun _ => 0) := rfl
theorem zz_I0_10 : zz_I0 10 = (fun _ => 0) := rfl
theorem zz_I0_11 : zz_I0 11 = (fun _ => 0) := rfl
theorem zz_I0_12 : zz_I0 12 = zz_fill (fun _ _ => 0) 0 9 1 0 := rfl
theorem zz_I0_13 : zz_I0 13 = (fun _ => 0) := rfl
theorem zz_I0_14 : zz_I0 14 = (fun _ => 0) := rfl
theorem zz_I0_15 : zz_I0 15 = zz_fill (fun _ _ => 0) 0 7 1 0 := rfl
theorem zz_I0_16 : zz_I0 16 = (fun _ => 0) := rfl
theorem zz_I0_17 : zz_I0 17 = (fun _ => 0) := rfl
theorem zz_I0_18 : zz_I0 18 = (fun _ => 0) := rfl
theorem zz_I0_19 : zz_I0 19 = (fun _ => 0) := rfl
theorem zz_I0_20 : zz_I0 20 = (fun _ => 0) := rfl
theorem zz_I0_21 : zz_I0 21 = (fun _ => 0) := rfl
theorem zz_I0_22 : zz_I0 22 = (fun _ => 0) := rfl
theorem zz_I0_23 : zz_I0 23 = zz_fill (fun _ _ => 0) 0 9 1 0 := rfl
theorem zz_I0_24 : zz_I0 24 = (fun _ => 0) := rfl
theorem zz_I0_25 : zz_I0 25 = (fun _ => 0) := rfl
theorem zz_I0_26 : zz_I0 26 = (fun _ => 0) := rfl
theorem zz_I0_27 : zz_I0 27 = zz_fill (fun _ _ => 0) 0 9 1 0 := rfl
theorem zz_I0_28 : zz_I0 28 = (fun _ => 0) := rfl
theorem zz_I0_29 : zz_I0 29 = (fun _ => 0) := rfl
theorem zz_I0_30 : zz_I0 30 = (fun _ => 0) := rfl
theorem zz_I0_31 : zz_I0 31 = (fun _ => 0) := rfl
theorem zz_I0_32 : zz_I0 32 = (fun _ => 0) := rfl
theorem zz_I0_33 : zz_I0 33 = (fun _ => 0) := rfl
theorem zz_I0_34 : zz_I0 34 = (fun _ => 0) := rfl
theorem zz_I0_35 : zz_I0 35 = (fun _ => 0) := rfl
theorem zz_I0_36 : zz_I0 36 = (fun _ => 0) := rfl
theorem zz_I0_37 : zz_I0 37 = (fun _ => 0) := rfl
theorem zz_I0_38 : zz_I0 38 = (fun _ => 0) := rfl
theorem zz_I0_39 : zz_I0 39 = (fun _ => 0) := rfl
theorem zz_I0_40 : zz_I0 40 = (fun _ => 0) := rfl
theorem zz_I0_41 : zz_I0 41 = (fun _ => 0) := rfl
theorem zz_I0_42 : zz_I0 42 = (fun _ => 0) := rfl
theorem zz_I0_43 : zz_I0 43 = (fun _ => 0) := rfl
theorem zz_I0_44 : zz_I0 44 = (fun _ => 0) := rfl
theorem zz_I0_45 : zz_I0 45 = (fun _ => 0) := rfl
theorem zz_I0_46 : zz_I0 46 = (fun _ => 0) := rfl
theorem zz_I0_47 : zz_I0 47 = (fun _ => 0) := rfl
theorem zz_I0_48 : zz_I0 48 = (fun _ => 0) := rfl
theorem zz_I0_49 : zz_I0 49 = (fun _ => 0) := rfl
theorem zz_I0_50 : zz_I0 50 = zz_fill (fun _ _ => 0) 0 9 1 0 := rfl
theorem zz_I0_51 : zz_I0 51 = (fun _ => 0) := rfl
theorem zz_I0_52 : zz_I0 52 = (fun _ => 0) := rfl
theorem zz_I0_53 : zz_I0 53 = (fun _ => 0) := rfl
theorem zz_I0_54 : zz_I0 54 = zz_fill (fun _ _ => 0) 0 9 1 0 := rfl
theorem zz_I0_55 : zz_I0 55 = (fun _ => 0) := rfl
theorem zz_L0_at (k : Nat) : zz_L0 k = (fun _ => 0) := rfl
set_option maxHeartbeats 4000000 in
set_option maxRecDepth 100000 in
theorem zz_new_C (ca : Nat → ClassId) (q : Nat) (u : Nat → Nat) : zo_X7_init ca q u = zz_cells ca zz_dC (zz_a0 q u) zz_I0 zz_L0 := by
  have hcl : (0 : Int32).toNatClampNeg = 0 := rfl
  simp only [zo_X7_init, zz_cells, zz_dC, zz_fWor, zz_fScr, zz_fLex, zz_fTab, zz_fHis, zz_fSig, zz_fCha, zz_fRan, List.mapIdx_cons, List.mapIdx_nil, zz_cell, zz_arr, zz_val, Nat.zero_add, Nat.reduceAdd, zz_L0_at, hcl, zz_I0_0, zz_I0_1, zz_I0_2, zz_I0_3, zz_I0_4, zz_I0_5, zz_I0_6, zz_I0_7, zz_I0_8, zz_I0_9, zz_I0_10, zz_I0_11, zz_I0_12, zz_I0_13, zz_I0_14, zz_I0_15, zz_I0_16, zz_I0_17, zz_I0_18, zz_I0_19, zz_I0_20, zz_I0_21, zz_I0_22, zz_I0_23, zz_I0_24, zz_I0_25, zz_I0_26, zz_I0_27, zz_I0_28, zz_I0_29, zz_I0_30, zz_I0_31, zz_I0_32, zz_I0_33, zz_I0_34, zz_I0_35, zz_I0_36, zz_I0_37, zz_I0_38, zz_I0_39, zz_I0_40, zz_I0_41, zz_I0_42, zz_I0_43, zz_I0_44, zz_I0_45, zz_I0_46, zz_I0_47, zz_I0_48, zz_I0_49, zz_I0_50, zz_I0_51, zz_I0_52, zz_I0_53, zz_I0_54, zz_I0_55, zz_a0_0, zz_a0_1, zz_a0_2, zz_a0_3, zz_a0_4, zz_a0_5, zz_a0_6, zz_a0_7, zz_a0_8, zz_a0_9, zz_a0_10, zz_a0_11, zz_a0_12, zz_a0_13, zz_a0_14, zz_a0_15, zz_a0_16, zz_a0_17, zz_a0_18, zz_a0_19, zz_a0_20, zz_a0_21, zz_a0_22, zz_a0_23, zz_a0_24, zz_a0_25, zz_a0_26, zz_a0_27, zz_a0_28, zz_a0_29, zz_a0_30, zz_a0_31, zz_a0_32, zz_a0_33, zz_a0_34, zz_a0_35, zz_a0_36, zz_a0_37, zz_a0_38, zz_a0_39, zz_a0_40, zz_a0_41, zz_a0_42, zz_a0_43, zz_a0_44, zz_a0_45, zz_a0_46, zz_a0_47, zz_a0_48, zz_a0_49, zz_a0_50, zz_a0_51, zz_a0_52, zz_a0_53, zz_a0_54, zz_a0_55]
theorem zz_St_of {s : State} {b : Nat} (hts : ∀ w ∈ lw_tbl, w.before #[Value.ref b] s = true) (hgv : (Jvm.Cond.and given_1 narrow_1).before #[Value.ref b] s = true) : zz_St (zl_A s) s := by
  have hf := flat_of_before _ hgv
  have hA : ∀ a : Nat, a < s.heap.size → ¬ (zl_A s) a := fun a h => Nat.not_le.mpr h
  obtain ⟨t, ht, hT⟩ := va_Tof (args := #[Value.ref b]) (s := s) (tm := .static "WornLetters" "FACTORIALS" "[J") (ty := .long) (N := 9) (f := fun j => .long (zz_fac j)) (A := zl_A s) (by decide) (hf _ (by decide +kernel)) (va_eqt (z := 9) (hf _ (by decide +kernel)))
    (fun j hj => by
      match j, hj with
      | 0, _ => exact va_eqtl (z := 1) (hf _ (by decide +kernel))
      | 1, _ => exact va_eqtl (z := 1) (hf _ (by decide +kernel))
      | 2, _ => exact va_eqtl (z := 2) (hf _ (by decide +kernel))
      | 3, _ => exact va_eqtl (z := 6) (hf _ (by decide +kernel))
      | 4, _ => exact va_eqtl (z := 24) (hf _ (by decide +kernel))
      | 5, _ => exact va_eqtl (z := 120) (hf _ (by decide +kernel))
      | 6, _ => exact va_eqtl (z := 720) (hf _ (by decide +kernel))
      | 7, _ => exact va_eqtl (z := 5040) (hf _ (by decide +kernel))
      | 8, _ => exact va_eqtl (z := 40320) (hf _ (by decide +kernel))
      | j + 9, hj => exact absurd hj (by omega)) hA
  exact ⟨t, va_Zof (hts _ zt_st) (hts _ zt_wi) ht hA, hT⟩
theorem zz_ca_of {s : State} (zw : zz_W s) : ∃ ca : Nat → ClassId, ∀ (k : Nat) (q : ClassId × FieldType), (zz_tys ca)[k]? = some q → ArrOfT s q.1 q.2 ∧ va_RA s q.1 q.2 := by
  obtain ⟨c0, k0, p0, h01, h02, h03⟩ := Cond.arrayClass_spec (zz_W_use (A := #[]) zw zk_arrI rfl)
  obtain ⟨c1, k1, p1, h11, h12, h13⟩ := Cond.arrayClass_spec (zz_W_use (A := #[]) zw zk_arrZ rfl)
  obtain ⟨c2, k2, p2, h21, h22, h23⟩ := Cond.arrayClass_spec (zz_W_use (A := #[]) zw zk_arrJ rfl)
  refine ⟨fun k => if k = 0 then c0 else if k = 1 then c1 else c2, ?_⟩
  intro k q hq
  match k, hq with
  | 0, hq => cases hq; exact ⟨fun n z => ⟨fun k h => (by cases h), k0, h02, p0, h03⟩, h01⟩
  | 1, hq => cases hq; exact ⟨fun n z => ⟨fun k h => (by cases h), k1, h12, p1, h13⟩, h11⟩
  | 2, hq => cases hq; exact ⟨fun n z => ⟨fun k h => (by cases h), k2, h22, p2, h23⟩, h21⟩
  | k + 3, hq => simp [zz_tys] at hq
theorem zr_callC {p : Program} {l : Launch} {e : Env} {R : Room} {s : State} {m : MethodId} {args : Array Value} {below : List Frame} {meth : Method} {c : Code} {H : Heap} {locs : List Loc} {cells slots : Nat} {Q : State → Prop} {cc : ByteArray} {pc : Nat} {ls : Array Slot} {rest : List Value} {D : va_G} {A : Nat → Prop} {H0 : Heap} {ca : Nat → ClassId} (hx : p.tables.exec = Jvm.exec) (hb : c.code = cc) {nL : Nat} (hml : c.maxLocals = nL) {own : String} (hown : s.vm.findClass own = some m.cls) (zw : zz_W s) {pre wc : va_W} (hB : zr_B D ca A H0 s (pre ++ wc) H locs) (hA : ∀ q, H0.size ≤ q → A q) {index maxL mc ms a : Nat} {y : MethodName} {bytes : ByteArray} {rm : Room} {ds : List zz_D} {P : zz_I → zz_L → Prop}
    (M : zr_MI own index y bytes maxL) (hM : Met l y [.code y bytes maxL none] rm (zr_Pre D ca wc [.ref a] H.size) (zz_QvC D ca ds (va_A wc H.size) a P) mc ms (va_A wc H.size)) (hls : ls.size = nL) (hW : (rest.map fun v => v.category).sum ≤ 8) (hrc : rm.cells = mc) (hrs : rm.slots = ms) (hR : rm.frames + 1 ≤ R.frames ∧ 8 + (maxL + 11) + rm.locals ≤ R.locals) (hdg : decode cc pc = .ok (.invokespecial index, 3)) (hf : cells + mc ≤ R.cells ∧ slots + ms ≤ R.slots)
    (kk : ∀ (u : Nat → Nat) (I : zz_I) (L : zz_L) (H : Heap) (locs : List Loc), u 0 = a → P I L → zr_B D ca A H0 s (pre ++ zz_cells ca ds u I L) H locs → W p l e R s m args below meth c H locs (cells + mc) (slots + ms) Q (F0 m (pc + 3) ls rest)) : W p l e R s m args below meth c H locs cells slots Q (F0 m pc ls (.ref a :: rest)) := by
  obtain ⟨M, hi, hyn⟩ := M
  obtain ⟨hK, hP, hD, hS⟩ := hB
  have hwc : ∀ (k : Nat) (x : Nat × va_E), wc[k]? = some x → (pre ++ wc)[pre.length + k]? = some x := fun k x hx => by rw [List.getElem?_append_right (Nat.le_add_right _ _), Nat.add_sub_cancel_left]; exact hx
  have hPc : va_P D vwCl wc H := fun k x hx => hP _ x (hwc k x hx)
  have hDc : va_D (fun _ => True) wc := ⟨fun i j x y hx hy hxy => by have := hD.1 _ _ x y (hwc i x hx) (hwc j y hy) hxy; omega, fun _ _ _ => trivial⟩
  have hF : ∀ q, va_A wc H.size q → A q := by
    intro q h
    rcases h with ⟨k, e, h⟩ | h
    · exact hD.2 _ (q, e) (hwc k _ h)
    · exact hA q (Nat.le_trans hS.1 h)
  have hpre : PreS s H (zr_Pre D ca wc [.ref a] H.size) (.ref a :: []) := ⟨zr_blind, fun U hU hW => ⟨rfl, by rw [hU], zz_W_warm hW zw, va_K.moved hW.alike hK, by rw [hU]; exact hPc, hDc⟩⟩
  have hS5 : CallFix p m c cc nL s args [] own := ⟨hx, hb, hml, hown, fun w h => by cases h⟩
  have hrun : va_Run p l e R s m args below meth c H locs cells slots mc ms (F0 m pc ls (.ref a :: rest)) rest (zz_QvC D ca ds (va_A wc H.size) a P (Value.ref a :: []).toArray) (va_A wc H.size) := by
    rcases M.2.2.1 with hl | ⟨host, hl⟩
    · exact va_runI (g := F0 m pc ls (.ref a :: rest)) (n := 0) (As := []) hS5 hM ⟨⟨hrc, hrs, hR.1, hR.2, zz_mc_w zw M, List.mem_singleton.mpr rfl, zz_W_use zw M.1 rfl, zz_W_use zw M.2.1 rfl, M.2.2.2.1, zz_mc_n M, zz_W_use zw hl rfl⟩, hyn, zz_W_use zw hi rfl⟩ hpre rfl rfl hls rfl (lv_room hW) hdg hf
    · exact va_runIN (g := F0 m pc ls (.ref a :: rest)) (n := 0) (As := []) (host := host) hS5 hM ⟨⟨⟨hrc, hrs, hR.1, hR.2, zz_mc_w zw M, List.mem_singleton.mpr rfl⟩, zz_W_use zw M.1 rfl, zz_W_use zw M.2.1 rfl, M.2.2.2.1, zz_mc_n M, zz_W_use zw hl rfl⟩, hyn, zz_W_use zw hi rfl⟩ hpre rfl rfl hls rfl (lv_room hW) hdg hf
  refine va_callv hrun hS (fun q _ h => hF q h) hF (fun u t H1 locs1 ht hvm hw hb _ hk1 hS1 => ?_)
  obtain ⟨b1, b2, b3⟩ := hb
  rw [ht] at b2
  obtain ⟨h1, h2⟩ := zr_frame hP hD hk1 hF b2 b3
  exact kk u.1 u.2.1 u.2.2 H1 locs1 hw.2 hw.1 ⟨hK, h1, h2, hS1⟩
theorem zl_split {D : va_G} {ca : Nat → ClassId} {s : State} {aC aM : Nat → Nat} {IC IM : zz_I} {LC LM : zz_L} {H : Heap} {locs : List Loc} (hB : zr_B D ca (zl_A s) s.heap s (zz_cells ca zz_dC aC IC LC ++ zz_cells ca zz_dM aM IM LM) H locs) : zl_B D ca s aC IC LC aM IM LM H locs := by
  obtain ⟨hK, hP, hD, hS⟩ := hB
  have hl : ∀ (k : Nat) (x : Nat × va_E), (zz_cells ca zz_dC aC IC LC)[k]? = some x → (zz_cells ca zz_dC aC IC LC ++ zz_cells ca zz_dM aM IM LM)[k]? = some x := fun k x hx => by rw [List.getElem?_append_left (List.getElem?_eq_some_iff.mp hx).1]; exact hx
  have hr : ∀ (k : Nat) (x : Nat × va_E), (zz_cells ca zz_dM aM IM LM)[k]? = some x → (zz_cells ca zz_dC aC IC LC ++ zz_cells ca zz_dM aM IM LM)[(zz_cells ca zz_dC aC IC LC).length + k]? = some x := fun k x hx => by rw [List.getElem?_append_right (Nat.le_add_right _ _), Nat.add_sub_cancel_left]; exact hx
  refine ⟨⟨hK, fun k x hx => hP k x (hl k x hx), ⟨fun i j x y hx hy => hD.1 i j x y (hl i x hx) (hl j y hy), fun k x hx => hD.2 k x (hl k x hx)⟩, hS⟩, ⟨hK, fun k x hx => hP _ x (hr k x hx), ⟨fun i j x y hx hy hxy => by have := hD.1 _ _ x y (hr i x hx) (hr j y hy) hxy; omega, fun k x hx => hD.2 _ x (hr k x hx)⟩, hS⟩, fun i j hi hj he => ?_⟩
  have h1 := hl i _ (zz_get (ca := ca) (a := aC) (I := IC) (L := LC) (List.getElem?_eq_getElem hi))
  have h2 := hr j _ (zz_get (ca := ca) (a := aM) (I := IM) (L := LM) (List.getElem?_eq_getElem hj))
  have h3 := hD.1 _ _ _ _ h1 h2 he
  have h4 : (zz_cells ca zz_dC aC IC LC).length = zz_dC.length := by unfold zz_cells; exact List.length_mapIdx
  omega
set_option maxHeartbeats 4000000 in
set_option maxRecDepth 100000 in
theorem zl_s3 {p : Program} {e : Env} {s : State} {m : MethodId} {below : List Frame} {meth : Method} {c : Code} {l : Launch} {b L : Nat} {xs : Nat → Int32} (hL : L ≤ 2048) (C0 : lw_At p s m meth c b L xs) (zw : zz_W s) {Rv : zz_I → zz_L → zz_I → zz_L → Prop} {D : va_G} {ca : Nat → ClassId} (hF : zz_St (zl_A s) s) (o0 : zo_0 Rv) (o1 : zo_1 Rv) (o2 : zo_2 Rv) (o3 : zo_3 Rv) (o4 : zo_4 Rv) (o5 : zo_5 Rv) (o6 : zo_6 Rv) (o7 : zo_7 Rv) (o8 : zo_8 Rv) (o9 : zo_9 Rv) (o10 : zo_10 Rv) (o11 : zo_11 Rv) (o12 : zo_12 Rv) (o13 : zo_13 Rv) (o14 : zo_14 Rv) (o15 : zo_15 Rv) (o16 : zo_16 Rv) (o17 : zo_17 Rv) (o18 : zo_18 Rv) (o19 : zo_19 Rv) (o20 : zo_20 Rv) (o21 : zo_21 Rv) (o22 : zo_22 Rv) (o23 : zo_23 Rv) (o24 : zo_24 Rv) (o25 : zo_25 Rv) (o26 : zo_26 Rv) (o27 : zo_27 Rv) (o28 : zo_28 Rv) (o29 : zo_29 Rv) {aC aM : Nat → Nat} {IC IM : zz_I} {LC LM : zz_L} {H : Heap} {locs : List Loc} {ls : Array Slot} {q0 q1 cells slots : Nat} (hc : cells ≤ 200) (hs : slots ≤ 40000) (ha : aC 0 = q0) (haM : aM 0 = q1) (hR : Rv IC LC IM LM) (hB : zl_B D ca s aC IC LC aM IM LM H locs) (hl : lv_has ls 4 [(1, .ref q0), (0, .ref b)]) : W p l e room_1 s m #[Value.ref b] below meth c H locs cells slots (lw_Z below #[Value.ref b] s) (F0 m 15 ls [.ref q1]) := by
  obtain ⟨hx, hb, hr, hml, hown, hts, hX, hbl, hlocks, hgv⟩ := id C0
  refine lv_astore_n (lv' := [(2, .ref q1), (1, .ref q0), (0, .ref b)]) hx hb dL_law_15 rfl hl (by decide) rfl (fun ls hl => ?_)
  refine lv_iconst (v := (0 : Int32)) hx hb dL_law_16 (by decide) ?_
  refine lv_istore_n (lv' := [(3, .int (0 : Int32)), (2, .ref q1), (1, .ref q0), (0, .ref b)]) hx hb dL_law_17 rfl hl (by decide) rfl (fun ls hl => ?_)
  subst ha
  subst haM
  exact zl_loop hL C0 zw hF o0 o1 o2 o3 o4 o5 o6 o7 o8 o9 o10 o11 o12 o13 o14 o15 o16 o17 o18 o19 o20 o21 o22 o23 o24 o25 o26 o27 o28 o29 (L + 4) 0 cells slots 0 aC aM IC IM LC LM H locs ls (by omega) (by omega) nI_0.symm hR hB (by omega) (by omega) (lv_sub hl [3, 2, 1, 0] rfl)
set_option maxHeartbeats 4000000 in
set_option maxRecDepth 100000 in
theorem zl_s2 {p : Program} {e : Env} {s : State} {m : MethodId} {below : List Frame} {meth : Method} {c : Code} {l : Launch} {b L : Nat} {xs : Nat → Int32} (hL : L ≤ 2048) (C0 : lw_At p s m meth c b L xs) (zw : zz_W s) {Rv : zz_I → zz_L → zz_I → zz_L → Prop} {D : va_G} {ca : Nat → ClassId} (hF : zz_St (zl_A s) s) (o0 : zo_0 Rv) (o1 : zo_1 Rv) (o2 : zo_2 Rv) (o3 : zo_3 Rv) (o4 : zo_4 Rv) (o5 : zo_5 Rv) (o6 : zo_6 Rv) (o7 : zo_7 Rv) (o8 : zo_8 Rv) (o9 : zo_9 Rv) (o10 : zo_10 Rv) (o11 : zo_11 Rv) (o12 : zo_12 Rv) (o13 : zo_13 Rv) (o14 : zo_14 Rv) (o15 : zo_15 Rv) (o16 : zo_16 Rv) (o17 : zo_17 Rv) (o18 : zo_18 Rv) (o19 : zo_19 Rv) (o20 : zo_20 Rv) (o21 : zo_21 Rv) (o22 : zo_22 Rv) (o23 : zo_23 Rv) (o24 : zo_24 Rv) (o25 : zo_25 Rv) (o26 : zo_26 Rv) (o27 : zo_27 Rv) (o28 : zo_28 Rv) (o29 : zo_29 Rv) {aC : Nat → Nat} {IC : zz_I} {LC : zz_L} (hI : zp_X8_initc (fun IM LM => Rv IC LC IM LM) (fun _ _ => 0) (fun _ _ => 0)) {H : Heap} {locs : List Loc} {ls : Array Slot} {q0 cells slots : Nat} (hc : cells ≤ 100) (hs : slots ≤ 5000) (ha : aC 0 = q0) (hB : zr_B D ca (zl_A s) s.heap s (zz_cells ca zz_dC aC IC LC) H locs) (hl : lv_has ls 4 [(0, .ref b)]) : W p l e room_1 s m #[Value.ref b] below meth c H locs cells slots (lw_Z below #[Value.ref b] s) (F0 m 7 ls [.ref q0]) := by
  obtain ⟨hx, hb, hr, hml, hown, hts, hX, hbl, hlocks, hgv⟩ := id C0
  have hown : s.vm.findClass RL = some m.cls := hown
  have hA : ∀ q : Nat, s.heap.size ≤ q → zl_A s q := fun _ h => h
  obtain ⟨wsC, ewsC⟩ : ∃ z : va_W, z = zz_cells ca zz_dC aC IC LC := ⟨_, rfl⟩
  rw [← ewsC] at hB
  refine lv_astore_n (lv' := [(1, .ref q0), (0, .ref b)]) hx hb dL_law_7 rfl hl (by decide) rfl (fun ls hl => ?_)
  refine zr_new hx hb hown zw hB hA zn_L_10 (by show cells + 1 ≤ 600000; omega) (by show slots + 36 ≤ 7302250; omega) dL_law_8 (fun q1 H hB => ?_)
  refine lv_dup hx hb dL_law_11 rfl ?_
  refine zr_callC (mc := 26) (ms := 18237) (pre := wsC) (wc := [(q1, .inr (8, [.int 0, .null, .int 0, .int 0, .null, .int 0, .null, .null, .null, .null, .null, .int 0, .null, .null, .null, .null, .null, .null, .null, .null, .null, .int 0, .null, .null, .int 0, .null, .null, .null, .long 0, .null, .null, .null, .null, .int 0, .int 0, .null]))]) hx hb hml hown zw hB hA zi_L_12 (zi_X8_init l D ca q1 H.size hI) hl.1 (Nat.le_of_ble_eq_true rfl) rfl rfl ⟨Nat.le_of_ble_eq_true rfl, Nat.le_of_ble_eq_true rfl⟩ dL_law_12 ⟨by show cells + 1 + 26 ≤ 600000; omega, by show slots + 36 + 18237 ≤ 7302250; omega⟩ (fun aM IM LM H locs haM hR hB => ?_)
  rw [ewsC] at hB
  exact zl_s3 hL C0 zw hF o0 o1 o2 o3 o4 o5 o6 o7 o8 o9 o10 o11 o12 o13 o14 o15 o16 o17 o18 o19 o20 o21 o22 o23 o24 o25 o26 o27 o28 o29 (by omega) (by omega) ha haM hR (zl_split hB) hl
set_option maxHeartbeats 4000000 in
set_option maxRecDepth 100000 in
/-- the law from its entry, over an invariant and what is owed of each call -/
theorem zl_start {p : Program} {e : Env} {s : State} {m : MethodId} {below : List Frame} {meth : Method} {c : Code} (l : Launch) {b L : Nat} {xs : Nat → Int32} (hL : L ≤ 2048) (C0 : lw_At p s m meth c b L xs) {Rv : zz_I → zz_L → zz_I → zz_L → Prop} (hI : zp_X8_initc (fun IM LM => Rv zz_I0 zz_L0 IM LM) (fun _ _ => 0) (fun _ _ => 0)) (o0 : zo_0 Rv) (o1 : zo_1 Rv) (o2 : zo_2 Rv) (o3 : zo_3 Rv) (o4 : zo_4 Rv) (o5 : zo_5 Rv) (o6 : zo_6 Rv) (o7 : zo_7 Rv) (o8 : zo_8 Rv) (o9 : zo_9 Rv) (o10 : zo_10 Rv) (o11 : zo_11 Rv) (o12 : zo_12 Rv) (o13 : zo_13 Rv) (o14 : zo_14 Rv) (o15 : zo_15 Rv) (o16 : zo_16 Rv) (o17 : zo_17 Rv) (o18 : zo_18 Rv) (o19 : zo_19 Rv) (o20 : zo_20 Rv) (o21 : zo_21 Rv) (o22 : zo_22 Rv) (o23 : zo_23 Rv) (o24 : zo_24 Rv) (o25 : zo_25 Rv) (o26 : zo_26 Rv) (o27 : zo_27 Rv) (o28 : zo_28 Rv) (o29 : zo_29 Rv) : W p l e room_1 s m #[Value.ref b] below meth c s.heap [] 0 0 (lw_Z below #[Value.ref b] s) (entryFrame m ([Value.ref b] : List Value).toArray 4) := by
  obtain ⟨hx, hb, hr, hml, hown, hts, hX, hbl, hlocks, hgv⟩ := id C0
  have hown : s.vm.findClass RL = some m.cls := hown
  have zw : zz_W s := zz_W_of hts
  have hF : zz_St (zl_A s) s := zz_St_of hts hgv
  have hA : ∀ q : Nat, s.heap.size ≤ q → zl_A s q := fun _ h => h
  obtain ⟨c0, iS0, hK0⟩ := u_known (C := RX0) (T := TX0) (N := 9) (n := 9) hts zt_X0 (hts _ zu_X0)
  obtain ⟨c1, iS1, hK1⟩ := u_known (C := RX1) (T := TX1) (N := 5) (n := 5) hts zt_X1 (hts _ zu_X1)
  obtain ⟨c2, iS2, hK2⟩ := u_known (C := RX2) (T := TX2) (N := 7) (n := 7) hts zt_X2 (hts _ zu_X2)
  obtain ⟨c3, iS3, hK3⟩ := u_known (C := RX3) (T := TX3) (N := 5) (n := 5) hts zt_X3 (hts _ zu_X3)
  obtain ⟨c4, iS4, hK4⟩ := u_known (C := RX4) (T := TX4) (N := 7) (n := 7) hts zt_X4 (hts _ zu_X4)
  obtain ⟨c5, iS5, hK5⟩ := u_known (C := RX5) (T := TX5) (N := 4) (n := 4) hts zt_X5 (hts _ zu_X5)
  obtain ⟨c6, iS6, hK6⟩ := u_known (C := RX6) (T := TX6) (N := 5) (n := 5) hts zt_X6 (hts _ zu_X6)
  obtain ⟨c7, iS7, hK7⟩ := u_known (C := RX7) (T := TX7) (N := 13) (n := 13) hts zt_X7 (hts _ zu_X7)
  obtain ⟨c8, iS8, hK8⟩ := u_known (C := RX8) (T := TX8) (N := 36) (n := 36) hts zt_X8 (hts _ zu_X8)
  obtain ⟨dC, dI, hKc⟩ : ∃ (dC : Nat → ClassId) (dI : Nat → Nat → Nat), ∀ (k : Nat) (q : vw_C), vwCl[k]? = some q → u_Kn s q.1 q.2.1 q.2.2 (dC k) (dI k) := by
    refine ⟨fun k => if k = 0 then c0 else if k = 1 then c1 else if k = 2 then c2 else if k = 3 then c3 else if k = 4 then c4 else if k = 5 then c5 else if k = 6 then c6 else if k = 7 then c7 else c8, fun k => if k = 0 then iS0 else if k = 1 then iS1 else if k = 2 then iS2 else if k = 3 then iS3 else if k = 4 then iS4 else if k = 5 then iS5 else if k = 6 then iS6 else if k = 7 then iS7 else iS8, ?_⟩
    intro k q hq
    match k, hq with
    | 0, hq => cases hq; exact hK0
    | 1, hq => cases hq; exact hK1
    | 2, hq => cases hq; exact hK2
    | 3, hq => cases hq; exact hK3
    | 4, hq => cases hq; exact hK4
    | 5, hq => cases hq; exact hK5
    | 6, hq => cases hq; exact hK6
    | 7, hq => cases hq; exact hK7
    | 8, hq => cases hq; exact hK8
    | k + 9, hq => simp [vwCl] at hq
  obtain ⟨ca, hca⟩ := zz_ca_of zw
  have hB : zr_B (dC, dI) ca (zl_A s) s.heap s [] s.heap [] := ⟨⟨hKc, hca⟩, fun k q h => by simp at h, ⟨fun i j p q h => by simp at h, fun k q h => by simp at h⟩, va_S.rf⟩
  have hl := lv_entry ([.ref b]) (n := 4) (Nat.le_of_ble_eq_true rfl)
  rw [lg_entry_eq]
  generalize (lg_sl ([.ref b]) ++ List.replicate (4 - (lg_sl ([.ref b])).length) Slot.unset).toArray = ls at hl ⊢
  have hl : lv_has ls 4 [(0, .ref b)] := hl
  refine zr_new hx hb hown zw hB hA zn_L_7 (Nat.le_of_ble_eq_true rfl) (Nat.le_of_ble_eq_true rfl) dL_law_0 (fun q0 H hB => ?_)
  refine lv_dup hx hb dL_law_3 rfl ?_
  refine zr_callI (mc := 55) (ms := 1084) (pre := []) (wc := [(q0, .inr (7, [.null, .null, .null, .null, .null, .null, .null, .null, .null, .null, .int 0, .int 0, .long 0]))]) hx hb hml hown zw hB hA zi_L_9 (zi_X7_init l (dC, dI) ca q0 H.size) hl.1 (Nat.le_of_ble_eq_true rfl) rfl rfl ⟨Nat.le_of_ble_eq_true rfl, Nat.le_of_ble_eq_true rfl⟩ dL_law_4 ⟨Nat.le_of_ble_eq_true rfl, Nat.le_of_ble_eq_true rfl⟩ (fun u H locs hB => ?_)
  rw [List.nil_append, zz_new_C] at hB
  exact zl_s2 hL C0 zw hF o0 o1 o2 o3 o4 o5 o6 o7 o8 o9 o10 o11 o12 o13 o14 o15 o16 o17 o18 o19 o20 o21 o22 o23 o24 o25 o26 o27 o28 o29 hI (Nat.le_of_ble_eq_true rfl) (Nat.le_of_ble_eq_true rfl) rfl hB hl
