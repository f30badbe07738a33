def zp_X7_word (x1 : Int32) (x2 : Int32) (P : Int32 → Prop) (I : zz_I) (L : zz_L) : Prop := zp_X2_hasWord x1 (fun r5 => (¬ r5 = 0 → (x2 = (0 : Int32) → vp_in x1 8 ∧ (P (I 17 x1.toNatClampNeg))) ∧ (x2 = (1 : Int32) → vp_in x1 8 ∧ (P (I 18 x1.toNatClampNeg))) ∧ (x2 = (2 : Int32) → vp_in x1 8 ∧ (P (I 19 x1.toNatClampNeg))) ∧ (x2 = (3 : Int32) → vp_in x1 8 ∧ (P (I 24 x1.toNatClampNeg))) ∧ (x2 = (4 : Int32) → vp_in x1 8 ∧ (P (I 20 x1.toNatClampNeg))) ∧ (x2 = (5 : Int32) → P (((I 21 4) >>> (x1 &&& 31)) &&& (1 : Int32))) ∧ (x2 = (6 : Int32) → vp_in x1 8 ∧ (zp_X2_letterOf x1 ((I 17 x1.toNatClampNeg) - (1 : Int32)) (fun r134 => P r134) I L)) ∧ (¬ x2 = (0 : Int32) → ¬ x2 = (1 : Int32) → ¬ x2 = (2 : Int32) → ¬ x2 = (3 : Int32) → ¬ x2 = (4 : Int32) → ¬ x2 = (5 : Int32) → ¬ x2 = (6 : Int32) → P (-2 : Int32))) ∧ (r5 = 0 → P (-1 : Int32))) I L
set_option maxHeartbeats 4000000 in
set_option maxRecDepth 100000 in
theorem zq_X7_word {p : Program} {l : Launch} {e : Env} {s : State} {m : MethodId} {args : Array Value} {below : List Frame} {meth : Method} {c : Code} {D : va_G} {ca : Nat → ClassId} {A : Nat → Prop} {a : Nat → Nat}  {P : Int32 → Prop} {I : zz_I} {L : zz_L} {x1 : Int32} {x2 : Int32} (X : zz_X p s m meth c cX7_word RX7 (some .int) 3) (hA : ∀ q, s.heap.size ≤ q → A q)   (h : zp_X7_word x1 x2 P I L) : zz_Go p l e ({ frames := 1, cells := 0, slots := 0, locals := 23 } : Room) s m args below meth c 0 0 (MQ below (zz_Qi D ca zz_dC A a (fun r I9 L9 => P r ∧ I9 = I ∧ L9 = L)) args s 0 0 A) D ca zz_dC A 3 0 a [] [(0, .ref (a 0)), (1, .int x1), (2, .int x2)] I L := by
  obtain ⟨hx, hb, hml, hown, zw, hr, hlocks⟩ := id X
  intro H locs ls hB hl
  unfold zp_X7_word at h
  refine lv_aload_n hx hb dX7_word_0 rfl (lv_at hl 0 rfl) ?_
  refine zz_getr (k' := 14) hx hb hown zw hB zF_X7_19 zdC_0 rfl rfl dX7_word_1 ?_
  refine lv_iload_n hx hb dX7_word_4 rfl (lv_at hl 1 rfl) ?_
  refine zz_goip hB hA (zz_runV (As := [.int x1]) (rest := []) hx hb hml hown zw hB zM_X7_105 (zc_X2_hasWord l D ca a I L H.size h) zdC_14 rfl rfl hl.1 rfl (Nat.le_of_ble_eq_true rfl) rfl rfl ⟨Nat.le_of_ble_eq_true rfl, Nat.le_of_ble_eq_true rfl⟩ dX7_word_5 ⟨Nat.le_of_ble_eq_true rfl, Nat.le_of_ble_eq_true rfl⟩) (fun r5 H locs h hB => ?_)
  refine lv_if_ne (tgt := 13) hx hb dX7_word_8 (by decide) (fun c8 => ?_) (fun c8 => ?_)
  · have h := h.1 c8
    refine lv_iload_n hx hb dX7_word_13 rfl (lv_at hl 2 rfl) ?_
    by_cases q14_0 : x2 = (0 : Int32)
    · have h := h.1 q14_0
      refine lv_tableIn (tgt := 56) hx hb dX7_word_14 (by rw [q14_0] <;> decide) (by rw [q14_0] <;> decide) (by rw [q14_0] <;> rfl) (by decide) ?_
      refine lv_aload_n hx hb dX7_word_56 rfl (lv_at hl 0 rfl) ?_
      refine zz_getr (k' := 14) hx hb hown zw hB zF_X7_19 zdC_0 rfl rfl dX7_word_57 ?_
      refine zz_getr (k' := 17) hx hb hown zw hB zF_X7_109 zdC_14 rfl rfl dX7_word_60 ?_
      refine lv_iload_n hx hb dX7_word_63 rfl (lv_at hl 1 rfl) ?_
      obtain ⟨hi64, h⟩ := h
      refine zz_iald hx hb hB zdC_17 hi64 dX7_word_64 ?_
      exact zz_iret hx hb hr hlocks hB ⟨h, rfl, rfl⟩ dX7_word_65
    by_cases q14_1 : x2 = (1 : Int32)
    · have h := h.2.1 q14_1
      refine lv_tableIn (tgt := 66) hx hb dX7_word_14 (by rw [q14_1] <;> decide) (by rw [q14_1] <;> decide) (by rw [q14_1] <;> rfl) (by decide) ?_
      refine lv_aload_n hx hb dX7_word_66 rfl (lv_at hl 0 rfl) ?_
      refine zz_getr (k' := 14) hx hb hown zw hB zF_X7_19 zdC_0 rfl rfl dX7_word_67 ?_
      refine zz_getr (k' := 18) hx hb hown zw hB zF_X7_113 zdC_14 rfl rfl dX7_word_70 ?_
      refine lv_iload_n hx hb dX7_word_73 rfl (lv_at hl 1 rfl) ?_
      obtain ⟨hi74, h⟩ := h
      refine zz_iald hx hb hB zdC_18 hi74 dX7_word_74 ?_
      exact zz_iret hx hb hr hlocks hB ⟨h, rfl, rfl⟩ dX7_word_75
    by_cases q14_2 : x2 = (2 : Int32)
    · have h := h.2.2.1 q14_2
      refine lv_tableIn (tgt := 76) hx hb dX7_word_14 (by rw [q14_2] <;> decide) (by rw [q14_2] <;> decide) (by rw [q14_2] <;> rfl) (by decide) ?_
      refine lv_aload_n hx hb dX7_word_76 rfl (lv_at hl 0 rfl) ?_
      refine zz_getr (k' := 14) hx hb hown zw hB zF_X7_19 zdC_0 rfl rfl dX7_word_77 ?_
      refine zz_getr (k' := 19) hx hb hown zw hB zF_X7_116 zdC_14 rfl rfl dX7_word_80 ?_
      refine lv_iload_n hx hb dX7_word_83 rfl (lv_at hl 1 rfl) ?_
      obtain ⟨hi84, h⟩ := h
      refine zz_iald hx hb hB zdC_19 hi84 dX7_word_84 ?_
      exact zz_iret hx hb hr hlocks hB ⟨h, rfl, rfl⟩ dX7_word_85
    by_cases q14_3 : x2 = (3 : Int32)
    · have h := h.2.2.2.1 q14_3
      refine lv_tableIn (tgt := 86) hx hb dX7_word_14 (by rw [q14_3] <;> decide) (by rw [q14_3] <;> decide) (by rw [q14_3] <;> rfl) (by decide) ?_
      refine lv_aload_n hx hb dX7_word_86 rfl (lv_at hl 0 rfl) ?_
      refine zz_getr (k' := 21) hx hb hown zw hB zF_X7_26 zdC_0 rfl rfl dX7_word_87 ?_
      refine zz_getr (k' := 24) hx hb hown zw hB zF_X7_119 zdC_21 rfl rfl dX7_word_90 ?_
      refine lv_iload_n hx hb dX7_word_93 rfl (lv_at hl 1 rfl) ?_
      obtain ⟨hi94, h⟩ := h
      refine zz_iald hx hb hB zdC_24 hi94 dX7_word_94 ?_
      exact zz_iret hx hb hr hlocks hB ⟨h, rfl, rfl⟩ dX7_word_95
    by_cases q14_4 : x2 = (4 : Int32)
    · have h := h.2.2.2.2.1 q14_4
      refine lv_tableIn (tgt := 96) hx hb dX7_word_14 (by rw [q14_4] <;> decide) (by rw [q14_4] <;> decide) (by rw [q14_4] <;> rfl) (by decide) ?_
      refine lv_aload_n hx hb dX7_word_96 rfl (lv_at hl 0 rfl) ?_
      refine zz_getr (k' := 14) hx hb hown zw hB zF_X7_19 zdC_0 rfl rfl dX7_word_97 ?_
      refine zz_getr (k' := 20) hx hb hown zw hB zF_X7_122 zdC_14 rfl rfl dX7_word_100 ?_
      refine lv_iload_n hx hb dX7_word_103 rfl (lv_at hl 1 rfl) ?_
      obtain ⟨hi104, h⟩ := h
      refine zz_iald hx hb hB zdC_20 hi104 dX7_word_104 ?_
      exact zz_iret hx hb hr hlocks hB ⟨h, rfl, rfl⟩ dX7_word_105
    by_cases q14_5 : x2 = (5 : Int32)
    · have h := h.2.2.2.2.2.1 q14_5
      refine lv_tableIn (tgt := 106) hx hb dX7_word_14 (by rw [q14_5] <;> decide) (by rw [q14_5] <;> decide) (by rw [q14_5] <;> rfl) (by decide) ?_
      refine lv_aload_n hx hb dX7_word_106 rfl (lv_at hl 0 rfl) ?_
      refine zz_getr (k' := 21) hx hb hown zw hB zF_X7_26 zdC_0 rfl rfl dX7_word_107 ?_
      refine zz_geti hx hb hown zw hB zF_X7_125 zdC_21 rfl dX7_word_110 ?_
      refine lv_iload_n hx hb dX7_word_113 rfl (lv_at hl 1 rfl) ?_
      refine lv_ishr hx hb dX7_word_114 ?_
      refine lv_iconst (v := (1 : Int32)) hx hb dX7_word_115 (by decide) ?_
      refine lv_iand hx hb dX7_word_116 ?_
      exact zz_iret hx hb hr hlocks hB ⟨h, rfl, rfl⟩ dX7_word_117
    by_cases q14_6 : x2 = (6 : Int32)
    · have h := h.2.2.2.2.2.2.1 q14_6
      refine lv_tableIn (tgt := 118) hx hb dX7_word_14 (by rw [q14_6] <;> decide) (by rw [q14_6] <;> decide) (by rw [q14_6] <;> rfl) (by decide) ?_
      refine lv_aload_n hx hb dX7_word_118 rfl (lv_at hl 0 rfl) ?_
      refine zz_getr (k' := 14) hx hb hown zw hB zF_X7_19 zdC_0 rfl rfl dX7_word_119 ?_
      refine lv_iload_n hx hb dX7_word_122 rfl (lv_at hl 1 rfl) ?_
      refine lv_aload_n hx hb dX7_word_123 rfl (lv_at hl 0 rfl) ?_
      refine zz_getr (k' := 14) hx hb hown zw hB zF_X7_19 zdC_0 rfl rfl dX7_word_124 ?_
      refine zz_getr (k' := 17) hx hb hown zw hB zF_X7_109 zdC_14 rfl rfl dX7_word_127 ?_
      refine lv_iload_n hx hb dX7_word_130 rfl (lv_at hl 1 rfl) ?_
      obtain ⟨hi131, h⟩ := h
      refine zz_iald hx hb hB zdC_17 hi131 dX7_word_131 ?_
      refine lv_iconst (v := (1 : Int32)) hx hb dX7_word_132 (by decide) ?_
      refine lv_isub hx hb dX7_word_133 ?_
      refine zz_goip hB hA (zz_runV (As := [.int x1, .int ((I 17 x1.toNatClampNeg) - (1 : Int32))]) (rest := []) hx hb hml hown zw hB zM_X7_128 (zc_X2_letterOf l D ca a I L H.size h) zdC_14 rfl rfl hl.1 rfl (Nat.le_of_ble_eq_true rfl) rfl rfl ⟨Nat.le_of_ble_eq_true rfl, Nat.le_of_ble_eq_true rfl⟩ dX7_word_134 ⟨Nat.le_of_ble_eq_true rfl, Nat.le_of_ble_eq_true rfl⟩) (fun r134 H locs h hB => ?_)
      exact zz_iret hx hb hr hlocks hB ⟨h, rfl, rfl⟩ dX7_word_137
    have h := h.2.2.2.2.2.2.2 q14_0 q14_1 q14_2 q14_3 q14_4 q14_5 q14_6
    have hts14 : x2.toInt < 0 ∨ 6 < x2.toInt := by
      have z0 := zz_ne_int q14_0
      have z1 := zz_ne_int q14_1
      have z2 := zz_ne_int q14_2
      have z3 := zz_ne_int q14_3
      have z4 := zz_ne_int q14_4
      have z5 := zz_ne_int q14_5
      have z6 := zz_ne_int q14_6
      have e0 : ((0 : Int32)).toInt = 0 ∧ ((1 : Int32)).toInt = 1 ∧ ((2 : Int32)).toInt = 2 ∧ ((3 : Int32)).toInt = 3 ∧ ((4 : Int32)).toInt = 4 ∧ ((5 : Int32)).toInt = 5 ∧ ((6 : Int32)).toInt = 6 := by decide
      omega
    refine lv_tableOut (tgt := 138) hx hb dX7_word_14 hts14 (by decide) ?_
    refine lv_bipush (v := (-2 : Int32)) hx hb dX7_word_138 (by decide) ?_
    exact zz_iret hx hb hr hlocks hB ⟨h, rfl, rfl⟩ dX7_word_140
  · have h := h.2 c8
    refine lv_iconst (v := (-1 : Int32)) hx hb dX7_word_11 (by decide) ?_
    exact zz_iret hx hb hr hlocks hB ⟨h, rfl, rfl⟩ dX7_word_12
theorem zc_X7_word (l : Launch) (D : va_G) (ca : Nat → ClassId) (a : Nat → Nat) (I : zz_I) (L : zz_L) (sz : Nat) {x1 : Int32} {x2 : Int32} {P : Int32 → Prop}  (h : zp_X7_word x1 x2 P I L) : Met l yX7_word [.code yX7_word cX7_word 3 (some .int)] ({ frames := 1, cells := 0, slots := 0, locals := 23 } : Room) (zz_Pre D ca zz_dC [.ref (a 0), .int x1, .int x2] a I L sz) (zz_Qi D ca zz_dC (zz_A ca zz_dC a I L sz) a (fun r I9 L9 => P r ∧ I9 = I ∧ L9 = L)) 0 0 (zz_A ca zz_dC a I L sz) :=
  zz_start (by decide) (Nat.le_of_ble_eq_true rfl) (fun p e s m below meth c X hsz hA => zq_X7_word X hA  h)
def zp_X7_write (x1 : Int32) (P : Int32 → zz_I → zz_L → Prop) (I : zz_I) (L : zz_L) : Prop := (x1 < 0 → P (-2 : Int32) I L) ∧ (¬ x1 < 0 → (x1 ≤ (255 : Int32) → ((I 1 1) < (110 : Int32) → zp_X4_append x1 (fun I34 L34 => P (I34 1 1) I34 L34) I L) ∧ (¬ (I 1 1) < (110 : Int32) → P (-4 : Int32) I L)) ∧ (¬ x1 ≤ (255 : Int32) → P (-2 : Int32) I L))
set_option maxHeartbeats 4000000 in
set_option maxRecDepth 100000 in
theorem zq_X7_write {p : Program} {l : Launch} {e : Env} {s : State} {m : MethodId} {args : Array Value} {below : List Frame} {meth : Method} {c : Code} {D : va_G} {ca : Nat → ClassId} {A : Nat → Prop} {a : Nat → Nat}  {P : Int32 → zz_I → zz_L → Prop} {I : zz_I} {L : zz_L} {x1 : Int32} (X : zz_X p s m meth c cX7_write RX7 (some .int) 2) (hA : ∀ q, s.heap.size ≤ q → A q)   (h : zp_X7_write x1 P I L) : zz_Go p l e ({ frames := 1, cells := 0, slots := 0, locals := 21 } : Room) s m args below meth c 0 0 (MQ below (zz_Qi D ca zz_dC A a P) args s 0 0 A) D ca zz_dC A 2 0 a [] [(0, .ref (a 0)), (1, .int x1)] I L := by
  obtain ⟨hx, hb, hml, hown, zw, hr, hlocks⟩ := id X
  intro H locs ls hB hl
  unfold zp_X7_write at h
  refine lv_iload_n hx hb dX7_write_0 rfl (lv_at hl 1 rfl) ?_
  refine lv_if_lt (tgt := 11) hx hb dX7_write_1 (by decide) (fun c1 => ?_) (fun c1 => ?_)
  · have h := h.1 c1
    refine lv_bipush (v := (-2 : Int32)) hx hb dX7_write_11 (by decide) ?_
    exact zz_iret hx hb hr hlocks hB h dX7_write_13
  · have h := h.2 c1
    refine lv_iload_n hx hb dX7_write_4 rfl (lv_at hl 1 rfl) ?_
    refine lv_sipush (v := (255 : Int32)) hx hb dX7_write_5 (by decide) ?_
    refine lv_icmp_le (tgt := 14) hx hb dX7_write_8 (by decide) (fun c8 => ?_) (fun c8 => ?_)
    · have h := h.1 c8
      refine lv_aload_n hx hb dX7_write_14 rfl (lv_at hl 0 rfl) ?_
      refine zz_getr (k' := 1) hx hb hown zw hB zF_X7_12 zdC_0 rfl rfl dX7_write_15 ?_
      refine zz_geti hx hb hown zw hB zF_X7_78 zdC_1 rfl dX7_write_18 ?_
      refine lv_bipush (v := (110 : Int32)) hx hb dX7_write_21 (by decide) ?_
      refine lv_icmp_lt (tgt := 29) hx hb dX7_write_23 (by decide) (fun c23 => ?_) (fun c23 => ?_)
      · have h := h.1 c23
        refine lv_aload_n hx hb dX7_write_29 rfl (lv_at hl 0 rfl) ?_
        refine zz_getr (k' := 1) hx hb hown zw hB zF_X7_12 zdC_0 rfl rfl dX7_write_30 ?_
        refine lv_iload_n hx hb dX7_write_33 rfl (lv_at hl 1 rfl) ?_
        refine zz_gov hB hA (zz_runV (As := [.int x1]) (rest := []) hx hb hml hown zw hB zM_X7_82 (zc_X4_append l D ca a I L H.size h) zdC_1 rfl rfl hl.1 rfl (Nat.le_of_ble_eq_true rfl) rfl rfl ⟨Nat.le_of_ble_eq_true rfl, Nat.le_of_ble_eq_true rfl⟩ dX7_write_34 ⟨Nat.le_of_ble_eq_true rfl, Nat.le_of_ble_eq_true rfl⟩) (fun I34 L34 H locs h hB => ?_)
        refine lv_aload_n hx hb dX7_write_37 rfl (lv_at hl 0 rfl) ?_
        refine zz_getr (k' := 1) hx hb hown zw hB zF_X7_12 zdC_0 rfl rfl dX7_write_38 ?_
        refine zz_geti hx hb hown zw hB zF_X7_78 zdC_1 rfl dX7_write_41 ?_
        exact zz_iret hx hb hr hlocks hB h dX7_write_44
      · have h := h.2 c23
        refine lv_bipush (v := (-4 : Int32)) hx hb dX7_write_26 (by decide) ?_
        exact zz_iret hx hb hr hlocks hB h dX7_write_28
    · have h := h.2 c8
      refine lv_bipush (v := (-2 : Int32)) hx hb dX7_write_11 (by decide) ?_
      exact zz_iret hx hb hr hlocks hB h dX7_write_13
theorem zc_X7_write (l : Launch) (D : va_G) (ca : Nat → ClassId) (a : Nat → Nat) (I : zz_I) (L : zz_L) (sz : Nat) {x1 : Int32} {P : Int32 → zz_I → zz_L → Prop}  (h : zp_X7_write x1 P I L) : Met l yX7_write [.code yX7_write cX7_write 2 (some .int)] ({ frames := 1, cells := 0, slots := 0, locals := 21 } : Room) (zz_Pre D ca zz_dC [.ref (a 0), .int x1] a I L sz) (zz_Qi D ca zz_dC (zz_A ca zz_dC a I L sz) a P) 0 0 (zz_A ca zz_dC a I L sz) :=
  zz_start (by decide) (Nat.le_of_ble_eq_true rfl) (fun p e s m below meth c X hsz hA => zq_X7_write X hA  h)
def zp_X8_unitsOf_4b (K4 : Int32 → Int32 → Prop) (P : Int32 → Prop) (x1 : Int32) (x2 : Int32) (x3 : Int32) (I : zz_I) (L : zz_L) : Prop := vp_in x1 8 ∧ (((I 3 x1.toNatClampNeg) ≤ x3 → P x2) ∧ (¬ (I 3 x1.toNatClampNeg) ≤ x3 → vp_in (((5 : Int32) * x1) + x3) 40 ∧ (vp_in (I 4 (((5 : Int32) * x1) + x3).toNatClampNeg) 7 ∧ (∀ v31 : Int32, v31 = x2 + (I 2 (I 4 (((5 : Int32) * x1) + x3).toNatClampNeg).toNatClampNeg) → (∀ v32 : Int32, v32 = x3 + (1 : Int32) → (K4 v31 v32))))))
set_option maxHeartbeats 4000000 in
set_option maxRecDepth 100000 in
theorem zq_X8_unitsOf_4b {p : Program} {l : Launch} {e : Env} {s : State} {m : MethodId} {args : Array Value} {below : List Frame} {meth : Method} {c : Code} {D : va_G} {ca : Nat → ClassId} {A : Nat → Prop} {a : Nat → Nat} {K4 : Int32 → Int32 → Prop} {P : Int32 → Prop} {I : zz_I} {L : zz_L} {x1 : Int32} {x2 : Int32} {x3 : Int32} (X : zz_X p s m meth c cX8_unitsOf RX8 (some .int) 4) (hA : ∀ q, s.heap.size ≤ q → A q)  (hK4 : ∀ (y2 : Int32) (y3 : Int32), K4 y2 y3 → zz_Go p l e ({ frames := 0, cells := 0, slots := 0, locals := 0 } : Room) s m args below meth c 0 0 (MQ below (zz_Qi D ca zz_dM A a (fun r I9 L9 => P r ∧ I9 = I ∧ L9 = L)) args s 0 0 A) D ca zz_dM A 4 4 a [] [(0, .ref (a 0)), (1, .int x1), (2, .int y2), (3, .int y3)] I L) (h : zp_X8_unitsOf_4b K4 P x1 x2 x3 I L) : zz_Go p l e ({ frames := 0, cells := 0, slots := 0, locals := 0 } : Room) s m args below meth c 0 0 (MQ below (zz_Qi D ca zz_dM A a (fun r I9 L9 => P r ∧ I9 = I ∧ L9 = L)) args s 0 0 A) D ca zz_dM A 4 4 a [] [(0, .ref (a 0)), (1, .int x1), (2, .int x2), (3, .int x3)] I L := by
  obtain ⟨hx, hb, hml, hown, zw, hr, hlocks⟩ := id X
  intro H locs ls hB hl
  unfold zp_X8_unitsOf_4b at h
  refine lv_iload_n hx hb dX8_unitsOf_4 rfl (lv_at hl 3 rfl) ?_
  refine lv_aload_n hx hb dX8_unitsOf_5 rfl (lv_at hl 0 rfl) ?_
  refine zz_getr (k' := 3) hx hb hown zw hB zF_X8_16 zdM_0 rfl rfl dX8_unitsOf_6 ?_
  refine lv_iload_n hx hb dX8_unitsOf_9 rfl (lv_at hl 1 rfl) ?_
  obtain ⟨hi10, h⟩ := h
  refine zz_iald hx hb hB zdM_3 hi10 dX8_unitsOf_10 ?_
  refine lv_icmp_ge (tgt := 38) hx hb dX8_unitsOf_11 (by decide) (fun c11 => ?_) (fun c11 => ?_)
  · have h := h.1 c11
    refine lv_iload_n hx hb dX8_unitsOf_38 rfl (lv_at hl 2 rfl) ?_
    exact zz_iret hx hb hr hlocks hB ⟨h, rfl, rfl⟩ dX8_unitsOf_39
  · have h := h.2 c11
    refine lv_iload_n hx hb dX8_unitsOf_14 rfl (lv_at hl 2 rfl) ?_
    refine lv_aload_n hx hb dX8_unitsOf_15 rfl (lv_at hl 0 rfl) ?_
    refine zz_getr (k' := 2) hx hb hown zw hB zF_X8_13 zdM_0 rfl rfl dX8_unitsOf_16 ?_
    refine lv_aload_n hx hb dX8_unitsOf_19 rfl (lv_at hl 0 rfl) ?_
    refine zz_getr (k' := 4) hx hb hown zw hB zF_X8_19 zdM_0 rfl rfl dX8_unitsOf_20 ?_
    refine lv_iconst (v := (5 : Int32)) hx hb dX8_unitsOf_23 (by decide) ?_
    refine lv_iload_n hx hb dX8_unitsOf_24 rfl (lv_at hl 1 rfl) ?_
    refine lv_imul hx hb dX8_unitsOf_25 ?_
    refine lv_iload_n hx hb dX8_unitsOf_26 rfl (lv_at hl 3 rfl) ?_
    refine lv_iadd hx hb dX8_unitsOf_27 ?_
    obtain ⟨hi28, h⟩ := h
    refine zz_iald hx hb hB zdM_4 hi28 dX8_unitsOf_28 ?_
    obtain ⟨hi29, h⟩ := h
    refine zz_iald hx hb hB zdM_2 hi29 dX8_unitsOf_29 ?_
    refine lv_iadd hx hb dX8_unitsOf_30 ?_
    refine lv_topi (fun v31 ev31 => ?_)
    have h := h v31 ev31
    refine lv_istore_n (lv' := [(2, .int v31), (0, .ref (a 0)), (1, .int x1), (3, .int x3)]) hx hb dX8_unitsOf_31 rfl hl (by decide) rfl (fun ls hl => ?_)
    obtain ⟨v32, ev32⟩ : ∃ z : Int32, z = x3 + (1 : Int32) := ⟨_, rfl⟩
    have h := h v32 ev32
    refine lv_iinc (v := v32) (lv' := [(3, .int v32), (2, .int v31), (0, .ref (a 0)), (1, .int x1)]) hx hb dX8_unitsOf_32 hl (k := 3) rfl (by rw [ev32]; rfl) (by decide) rfl (fun ls hl => ?_)
    refine lv_goto (tgt := 4) hx hb dX8_unitsOf_35 (by decide) ?_
    exact hK4 _ _ h H locs ls hB (lv_sub hl [2, 3, 1, 0] rfl)
def zp_X8_unitsOf_4  (P : Int32 → Prop) (x1 : Int32) (x2 : Int32) (x3 : Int32) (I : zz_I) (L : zz_L) : Prop := ∃ (Inv : Int32 → Int32 → Prop) (μ : Int32 → Int32 → Nat), Inv x2 x3 ∧ ∀ (y2 : Int32) (y3 : Int32), Inv y2 y3 → zp_X8_unitsOf_4b  (fun z2 z3 => Inv z2 z3 ∧ μ z2 z3 < μ y2 y3) P x1 y2 y3 I L
set_option maxHeartbeats 4000000 in
set_option maxRecDepth 100000 in
theorem zq_X8_unitsOf_4 {p : Program} {l : Launch} {e : Env} {s : State} {m : MethodId} {args : Array Value} {below : List Frame} {meth : Method} {c : Code} {D : va_G} {ca : Nat → ClassId} {A : Nat → Prop} {a : Nat → Nat}  {P : Int32 → Prop} {I : zz_I} {L : zz_L} {x1 : Int32} {x2 : Int32} {x3 : Int32} (X : zz_X p s m meth c cX8_unitsOf RX8 (some .int) 4) (hA : ∀ q, s.heap.size ≤ q → A q)   (h : zp_X8_unitsOf_4  P x1 x2 x3 I L) : zz_Go p l e ({ frames := 0, cells := 0, slots := 0, locals := 0 } : Room) s m args below meth c 0 0 (MQ below (zz_Qi D ca zz_dM A a (fun r I9 L9 => P r ∧ I9 = I ∧ L9 = L)) args s 0 0 A) D ca zz_dM A 4 4 a [] [(0, .ref (a 0)), (1, .int x1), (2, .int x2), (3, .int x3)] I L := by
  unfold zp_X8_unitsOf_4 at h
  obtain ⟨Inv, μ, hv0, hs⟩ := h
  have key : ∀ (n9 : Nat) (y2 : Int32) (y3 : Int32), μ y2 y3 < n9 → Inv y2 y3 → zz_Go p l e ({ frames := 0, cells := 0, slots := 0, locals := 0 } : Room) s m args below meth c 0 0 (MQ below (zz_Qi D ca zz_dM A a (fun r I9 L9 => P r ∧ I9 = I ∧ L9 = L)) args s 0 0 A) D ca zz_dM A 4 4 a [] [(0, .ref (a 0)), (1, .int x1), (2, .int y2), (3, .int y3)] I L := by
    intro n9
    induction n9 with
    | zero => intro y2 y3 hn; exact absurd hn (Nat.not_lt_zero _)
    | succ n9 ih =>
      intro y2 y3 hn hi
      exact zq_X8_unitsOf_4b (K4 := (fun z2 z3 => Inv z2 z3 ∧ μ z2 z3 < μ y2 y3)) X hA   (fun z2 z3 hz => ih z2 z3 (Nat.lt_of_lt_of_le hz.2 (Nat.le_of_lt_succ hn)) hz.1) (hs y2 y3 hi)
  exact key _ x2 x3 (Nat.lt_succ_self _) hv0
def zp_X8_unitsOf (x1 : Int32) (P : Int32 → Prop) (I : zz_I) (L : zz_L) : Prop := zp_X8_unitsOf_4 P x1 (0 : Int32) (0 : Int32) I L
set_option maxHeartbeats 4000000 in
set_option maxRecDepth 100000 in
theorem zq_X8_unitsOf {p : Program} {l : Launch} {e : Env} {s : State} {m : MethodId} {args : Array Value} {below : List Frame} {meth : Method} {c : Code} {D : va_G} {ca : Nat → ClassId} {A : Nat → Prop} {a : Nat → Nat}  {P : Int32 → Prop} {I : zz_I} {L : zz_L} {x1 : Int32} (X : zz_X p s m meth c cX8_unitsOf RX8 (some .int) 4) (hA : ∀ q, s.heap.size ≤ q → A q)   (h : zp_X8_unitsOf x1 P I L) : zz_Go p l e ({ frames := 0, cells := 0, slots := 0, locals := 0 } : Room) s m args below meth c 0 0 (MQ below (zz_Qi D ca zz_dM A a (fun r I9 L9 => P r ∧ I9 = I ∧ L9 = L)) args s 0 0 A) D ca zz_dM A 4 0 a [] [(0, .ref (a 0)), (1, .int x1)] I L := by
  obtain ⟨hx, hb, hml, hown, zw, hr, hlocks⟩ := id X
  intro H locs ls hB hl
  unfold zp_X8_unitsOf at h
  refine lv_iconst (v := (0 : Int32)) hx hb dX8_unitsOf_0 (by decide) ?_
  refine lv_istore_n (lv' := [(2, .int (0 : Int32)), (0, .ref (a 0)), (1, .int x1)]) hx hb dX8_unitsOf_1 rfl hl (by decide) rfl (fun ls hl => ?_)
  refine lv_iconst (v := (0 : Int32)) hx hb dX8_unitsOf_2 (by decide) ?_
  refine lv_istore_n (lv' := [(3, .int (0 : Int32)), (2, .int (0 : Int32)), (0, .ref (a 0)), (1, .int x1)]) hx hb dX8_unitsOf_3 rfl hl (by decide) rfl (fun ls hl => ?_)
  exact zq_X8_unitsOf_4 X hA  h H locs ls hB (lv_sub hl [2, 3, 1, 0] rfl)
theorem zc_X8_unitsOf (l : Launch) (D : va_G) (ca : Nat → ClassId) (a : Nat → Nat) (I : zz_I) (L : zz_L) (sz : Nat) {x1 : Int32} {P : Int32 → Prop}  (h : zp_X8_unitsOf x1 P I L) : Met l yX8_unitsOf [.code yX8_unitsOf cX8_unitsOf 4 (some .int)] ({ frames := 0, cells := 0, slots := 0, locals := 0 } : Room) (zz_Pre D ca zz_dM [.ref (a 0), .int x1] a I L sz) (zz_Qi D ca zz_dM (zz_A ca zz_dM a I L sz) a (fun r I9 L9 => P r ∧ I9 = I ∧ L9 = L)) 0 0 (zz_A ca zz_dM a I L sz) :=
  zz_start (by decide) (Nat.le_of_ble_eq_true rfl) (fun p e s m below meth c X hsz hA => zq_X8_unitsOf X hA  h)
def zp_X8_addHeavy_43b (K43 : Int32 → zz_I → zz_L → Prop) (P : zz_I → zz_L → Prop) (k1 : Nat) (x2 : Int32) (x3 : Int32) (x5 : Int32) (x6 : Int32) (x7 : Int32) (I : zz_I) (L : zz_L) : Prop := ((73 : Int32) ≤ (x7 + x6) → P I L) ∧ (¬ (73 : Int32) ≤ (x7 + x6) → vp_in ((x2 + x6) + x7) 16425 ∧ (vp_in ((((657 : Int32) * (x5 + (1 : Int32))) + ((73 : Int32) * x3)) + x7) 16425 ∧ (vp_in ((x2 + x6) + x7) 16425 ∧ (∀ L88 : zz_L, L88 = zz_up L 22 ((x2 + x6) + x7).toNatClampNeg ((L 22 ((x2 + x6) + x7).toNatClampNeg) + (L 22 ((((657 : Int32) * (x5 + (1 : Int32))) + ((73 : Int32) * x3)) + x7).toNatClampNeg)) → (∀ v89 : Int32, v89 = x7 + (1 : Int32) → (K43 v89 I L88))))))
set_option maxHeartbeats 4000000 in
set_option maxRecDepth 100000 in
theorem zq_X8_addHeavy_43b {p : Program} {l : Launch} {e : Env} {s : State} {m : MethodId} {args : Array Value} {below : List Frame} {meth : Method} {c : Code} {D : va_G} {ca : Nat → ClassId} {A : Nat → Prop} {a : Nat → Nat} {K43 : Int32 → zz_I → zz_L → Prop} {P : zz_I → zz_L → Prop} {I : zz_I} {L : zz_L} {k1 : Nat} {x2 : Int32} {x3 : Int32} {x5 : Int32} {x6 : Int32} {x7 : Int32} (X : zz_X p s m meth c cX8_addHeavy RX8 none 8) (hA : ∀ q, s.heap.size ≤ q → A q) (hk1 : zz_dM[k1]? = some (.inl (0, 43))) (hK43 : ∀ (y7 : Int32) (I8 : zz_I) (L8 : zz_L), K43 y7 I8 L8 → zz_Go p l e ({ frames := 1, cells := 0, slots := 0, locals := 23 } : Room) s m args below meth c 0 0 (MQ below (zz_Qv D ca zz_dM A a P) args s 0 0 A) D ca zz_dM A 8 43 a [] [(0, .ref (a 0)), (2, .int x2), (3, .int x3), (5, .int x5), (6, .int x6), (7, .int y7)] I8 L8) (h : zp_X8_addHeavy_43b K43 P k1 x2 x3 x5 x6 x7 I L) : zz_Go p l e ({ frames := 1, cells := 0, slots := 0, locals := 23 } : Room) s m args below meth c 0 0 (MQ below (zz_Qv D ca zz_dM A a P) args s 0 0 A) D ca zz_dM A 8 43 a [] [(0, .ref (a 0)), (2, .int x2), (3, .int x3), (5, .int x5), (6, .int x6), (7, .int x7)] I L := by
  obtain ⟨hx, hb, hml, hown, zw, hr, hlocks⟩ := id X
  intro H locs ls hB hl
  unfold zp_X8_addHeavy_43b at h
  refine lv_iload hx hb dX8_addHeavy_43 (lv_at hl 5 rfl) ?_
  refine lv_iload hx hb dX8_addHeavy_45 (lv_at hl 4 rfl) ?_
  refine lv_iadd hx hb dX8_addHeavy_47 ?_
  refine lv_bipush (v := (73 : Int32)) hx hb dX8_addHeavy_48 (by decide) ?_
  refine lv_icmp_ge (tgt := 95) hx hb dX8_addHeavy_50 (by decide) (fun c50 => ?_) (fun c50 => ?_)
  · have h := h.1 c50
    exact zz_vret hx hb hr hlocks hB h dX8_addHeavy_95
  · have h := h.2 c50
    refine lv_aload_n hx hb dX8_addHeavy_53 rfl (lv_at hl 0 rfl) ?_
    refine zz_getr (k' := 22) hx hb hown zw hB zF_X8_74 zdM_0 rfl rfl dX8_addHeavy_54 ?_
    refine lv_iload_n hx hb dX8_addHeavy_57 rfl (lv_at hl 1 rfl) ?_
    refine lv_iload hx hb dX8_addHeavy_58 (lv_at hl 4 rfl) ?_
    refine lv_iadd hx hb dX8_addHeavy_60 ?_
    refine lv_iload hx hb dX8_addHeavy_61 (lv_at hl 5 rfl) ?_
    refine lv_iadd hx hb dX8_addHeavy_63 ?_
    refine lv_dup2_11 hx hb dX8_addHeavy_64 rfl rfl ?_
    obtain ⟨hi65, h⟩ := h
    refine zz_lald hx hb hB zdM_22 hi65 dX8_addHeavy_65 ?_
    refine lv_aload_n hx hb dX8_addHeavy_66 rfl (lv_at hl 0 rfl) ?_
    refine zz_getr (k' := 22) hx hb hown zw hB zF_X8_74 zdM_0 rfl rfl dX8_addHeavy_67 ?_
    refine lv_sipush (v := (657 : Int32)) hx hb dX8_addHeavy_70 (by decide) ?_
    refine lv_iload hx hb dX8_addHeavy_73 (lv_at hl 3 rfl) ?_
    refine lv_iconst (v := (1 : Int32)) hx hb dX8_addHeavy_75 (by decide) ?_
    refine lv_iadd hx hb dX8_addHeavy_76 ?_
    refine lv_imul hx hb dX8_addHeavy_77 ?_
    refine lv_bipush (v := (73 : Int32)) hx hb dX8_addHeavy_78 (by decide) ?_
    refine lv_iload_n hx hb dX8_addHeavy_80 rfl (lv_at hl 2 rfl) ?_
    refine lv_imul hx hb dX8_addHeavy_81 ?_
    refine lv_iadd hx hb dX8_addHeavy_82 ?_
    refine lv_iload hx hb dX8_addHeavy_83 (lv_at hl 5 rfl) ?_
    refine lv_iadd hx hb dX8_addHeavy_85 ?_
    obtain ⟨hi86, h⟩ := h
    refine zz_lald hx hb hB zdM_22 hi86 dX8_addHeavy_86 ?_
    refine lv_ladd hx hb dX8_addHeavy_87 ?_
    obtain ⟨hi88, h⟩ := h
    refine zz_last hx hb hB zdM_22 hi88 dX8_addHeavy_88 (fun H locs hB => ?_)
    obtain ⟨L88, eL88⟩ : ∃ z : zz_L, z = zz_up L 22 ((x2 + x6) + x7).toNatClampNeg ((L 22 ((x2 + x6) + x7).toNatClampNeg) + (L 22 ((((657 : Int32) * (x5 + (1 : Int32))) + ((73 : Int32) * x3)) + x7).toNatClampNeg)) := ⟨_, rfl⟩
    rw [← eL88] at hB
    have h := h L88 eL88
    obtain ⟨v89, ev89⟩ : ∃ z : Int32, z = x7 + (1 : Int32) := ⟨_, rfl⟩
    have h := h v89 ev89
    refine lv_iinc (v := v89) (lv' := [(7, .int v89), (0, .ref (a 0)), (2, .int x2), (3, .int x3), (5, .int x5), (6, .int x6)]) hx hb dX8_addHeavy_89 hl (k := 5) rfl (by rw [ev89]; rfl) (by decide) rfl (fun ls hl => ?_)
    refine lv_goto (tgt := 43) hx hb dX8_addHeavy_92 (by decide) ?_
    exact hK43 _ _ _ h H locs ls hB (lv_sub hl [1, 2, 3, 4, 5, 0] rfl)
def zp_X8_addHeavy_43  (P : zz_I → zz_L → Prop) (k1 : Nat) (x2 : Int32) (x3 : Int32) (x5 : Int32) (x6 : Int32) (x7 : Int32) (I : zz_I) (L : zz_L) : Prop := ∃ (Inv : Int32 → zz_I → zz_L → Prop) (μ : Int32 → zz_I → zz_L → Nat), Inv x7 I L ∧ ∀ (y7 : Int32) (I8 : zz_I) (L8 : zz_L), Inv y7 I8 L8 → zp_X8_addHeavy_43b  (fun z7 I7 L7 => Inv z7 I7 L7 ∧ μ z7 I7 L7 < μ y7 I8 L8) P k1 x2 x3 x5 x6 y7 I8 L8
set_option maxHeartbeats 4000000 in
set_option maxRecDepth 100000 in
theorem zq_X8_addHeavy_43 {p : Program} {l : Launch} {e : Env} {s : State} {m : MethodId} {args : Array Value} {below : List Frame} {meth : Method} {c : Code} {D : va_G} {ca : Nat → ClassId} {A : Nat → Prop} {a : Nat → Nat}  {P : zz_I → zz_L → Prop} {I : zz_I} {L : zz_L} {k1 : Nat} {x2 : Int32} {x3 : Int32} {x5 : Int32} {x6 : Int32} {x7 : Int32} (X : zz_X p s m meth c cX8_addHeavy RX8 none 8) (hA : ∀ q, s.heap.size ≤ q → A q) (hk1 : zz_dM[k1]? = some (.inl (0, 43)))  (h : zp_X8_addHeavy_43  P k1 x2 x3 x5 x6 x7 I L) : zz_Go p l e ({ frames := 1, cells := 0, slots := 0, locals := 23 } : Room) s m args below meth c 0 0 (MQ below (zz_Qv D ca zz_dM A a P) args s 0 0 A) D ca zz_dM A 8 43 a [] [(0, .ref (a 0)), (2, .int x2), (3, .int x3), (5, .int x5), (6, .int x6), (7, .int x7)] I L := by
  unfold zp_X8_addHeavy_43 at h
  obtain ⟨Inv, μ, hv0, hs⟩ := h
  have key : ∀ (n9 : Nat) (y7 : Int32) (I8 : zz_I) (L8 : zz_L), μ y7 I8 L8 < n9 → Inv y7 I8 L8 → zz_Go p l e ({ frames := 1, cells := 0, slots := 0, locals := 23 } : Room) s m args below meth c 0 0 (MQ below (zz_Qv D ca zz_dM A a P) args s 0 0 A) D ca zz_dM A 8 43 a [] [(0, .ref (a 0)), (2, .int x2), (3, .int x3), (5, .int x5), (6, .int x6), (7, .int y7)] I8 L8 := by
    intro n9
    induction n9 with
    | zero => intro y7 I8 L8 hn; exact absurd hn (Nat.not_lt_zero _)
    | succ n9 ih =>
      intro y7 I8 L8 hn hi
      exact zq_X8_addHeavy_43b (K43 := (fun z7 I7 L7 => Inv z7 I7 L7 ∧ μ z7 I7 L7 < μ y7 I8 L8)) X hA hk1  (fun z7 I7 L7 hz => ih z7 I7 L7 (Nat.lt_of_lt_of_le hz.2 (Nat.le_of_lt_succ hn)) hz.1) (hs y7 I8 L8 hi)
  exact key _ x7 I L (Nat.lt_succ_self _) hv0
def zp_X8_addHeavy (k1 : Nat) (x2 : Int32) (x3 : Int32) (x4 : Int32) (P : zz_I → zz_L → Prop) (I : zz_I) (L : zz_L) : Prop := zp_X8_unitsOf x3 (fun r4 => ∀ v8 : Int32, v8 = x4 + r4 → (vp_in ((11 : Int32) + x3) 43 ∧ (∀ v16 : Int32, v16 = I k1 ((11 : Int32) + x3).toNatClampNeg → (vp_in (0 : Int32) 43 ∧ ((¬ v8 = (I k1 (0 : Int32).toNatClampNeg) → zp_X8_addHeavy_43 P k1 x2 x3 v8 v16 (0 : Int32) I L) ∧ (v8 = (I k1 (0 : Int32).toNatClampNeg) → vp_in (x2 + v16) 16425 ∧ (vp_in (x2 + v16) 16425 ∧ (∀ L38 : zz_L, L38 = zz_up L 22 (x2 + v16).toNatClampNeg ((L 22 (x2 + v16).toNatClampNeg) + (1 : Int64)) → (P I L38))))))))) I L
set_option maxHeartbeats 4000000 in
set_option maxRecDepth 100000 in
theorem zq_X8_addHeavy {p : Program} {l : Launch} {e : Env} {s : State} {m : MethodId} {args : Array Value} {below : List Frame} {meth : Method} {c : Code} {D : va_G} {ca : Nat → ClassId} {A : Nat → Prop} {a : Nat → Nat}  {P : zz_I → zz_L → Prop} {I : zz_I} {L : zz_L} {k1 : Nat} {x2 : Int32} {x3 : Int32} {x4 : Int32} (X : zz_X p s m meth c cX8_addHeavy RX8 none 8) (hA : ∀ q, s.heap.size ≤ q → A q) (hk1 : zz_dM[k1]? = some (.inl (0, 43)))  (h : zp_X8_addHeavy k1 x2 x3 x4 P I L) : zz_Go p l e ({ frames := 1, cells := 0, slots := 0, locals := 23 } : Room) s m args below meth c 0 0 (MQ below (zz_Qv D ca zz_dM A a P) args s 0 0 A) D ca zz_dM A 8 0 a [] [(0, .ref (a 0)), (1, .ref (a k1)), (2, .int x2), (3, .int x3), (4, .int x4)] I L := by
  obtain ⟨hx, hb, hml, hown, zw, hr, hlocks⟩ := id X
  intro H locs ls hB hl
  unfold zp_X8_addHeavy at h
  refine lv_iload hx hb dX8_addHeavy_0 (lv_at hl 4 rfl) ?_
  refine lv_aload_n hx hb dX8_addHeavy_2 rfl (lv_at hl 0 rfl) ?_
  refine lv_iload_n hx hb dX8_addHeavy_3 rfl (lv_at hl 3 rfl) ?_
  refine zz_goip hB hA (zz_runV (As := [.int x3]) (rest := [.int x4]) hx hb hml hown zw hB zM_X8_152 (zc_X8_unitsOf l D ca a I L H.size h) zdM_0 rfl rfl hl.1 rfl (Nat.le_of_ble_eq_true rfl) rfl rfl ⟨Nat.le_of_ble_eq_true rfl, Nat.le_of_ble_eq_true rfl⟩ dX8_addHeavy_4 ⟨Nat.le_of_ble_eq_true rfl, Nat.le_of_ble_eq_true rfl⟩) (fun r4 H locs h hB => ?_)
  refine lv_iadd hx hb dX8_addHeavy_7 ?_
  refine lv_topi (fun v8 ev8 => ?_)
  have h := h v8 ev8
  refine lv_istore (lv' := [(5, .int v8), (0, .ref (a 0)), (1, .ref (a k1)), (2, .int x2), (3, .int x3), (4, .int x4)]) hx hb dX8_addHeavy_8 hl (by decide) rfl (fun ls hl => ?_)
  refine lv_aload_n hx hb dX8_addHeavy_10 rfl (lv_at hl 2 rfl) ?_
  refine lv_bipush (v := (11 : Int32)) hx hb dX8_addHeavy_11 (by decide) ?_
  refine lv_iload_n hx hb dX8_addHeavy_13 rfl (lv_at hl 4 rfl) ?_
  refine lv_iadd hx hb dX8_addHeavy_14 ?_
  obtain ⟨hi15, h⟩ := h
  refine zz_iald hx hb hB hk1 hi15 dX8_addHeavy_15 ?_
  refine lv_topi (fun v16 ev16 => ?_)
  have h := h v16 ev16
  refine lv_istore (lv' := [(6, .int v16), (5, .int v8), (0, .ref (a 0)), (1, .ref (a k1)), (2, .int x2), (3, .int x3), (4, .int x4)]) hx hb dX8_addHeavy_16 hl (by decide) rfl (fun ls hl => ?_)
  refine lv_iload hx hb dX8_addHeavy_18 (lv_at hl 1 rfl) ?_
  refine lv_aload_n hx hb dX8_addHeavy_20 rfl (lv_at hl 3 rfl) ?_
  refine lv_iconst (v := (0 : Int32)) hx hb dX8_addHeavy_21 (by decide) ?_
  obtain ⟨hi22, h⟩ := h
  refine zz_iald hx hb hB hk1 hi22 dX8_addHeavy_22 ?_
  refine lv_icmp_ne (tgt := 40) hx hb dX8_addHeavy_23 (by decide) (fun c23 => ?_) (fun c23 => ?_)
  · have h := h.1 c23
    refine lv_iconst (v := (0 : Int32)) hx hb dX8_addHeavy_40 (by decide) ?_
    refine lv_istore (lv' := [(7, .int (0 : Int32)), (6, .int v16), (5, .int v8), (0, .ref (a 0)), (1, .ref (a k1)), (2, .int x2), (3, .int x3), (4, .int x4)]) hx hb dX8_addHeavy_41 hl (by decide) rfl (fun ls hl => ?_)
    exact zq_X8_addHeavy_43 X hA hk1 h H locs ls hB (lv_sub hl [3, 5, 6, 2, 1, 0] rfl)
  · have h := h.2 c23
    refine lv_aload_n hx hb dX8_addHeavy_26 rfl (lv_at hl 2 rfl) ?_
    refine zz_getr (k' := 22) hx hb hown zw hB zF_X8_74 zdM_0 rfl rfl dX8_addHeavy_27 ?_
    refine lv_iload_n hx hb dX8_addHeavy_30 rfl (lv_at hl 4 rfl) ?_
    refine lv_iload hx hb dX8_addHeavy_31 (lv_at hl 0 rfl) ?_
    refine lv_iadd hx hb dX8_addHeavy_33 ?_
    refine lv_dup2_11 hx hb dX8_addHeavy_34 rfl rfl ?_
    obtain ⟨hi35, h⟩ := h
    refine zz_lald hx hb hB zdM_22 hi35 dX8_addHeavy_35 ?_
    refine lv_lconst (v := (1 : Int64)) hx hb dX8_addHeavy_36 (by decide) ?_
    refine lv_ladd hx hb dX8_addHeavy_37 ?_
    obtain ⟨hi38, h⟩ := h
    refine zz_last hx hb hB zdM_22 hi38 dX8_addHeavy_38 (fun H locs hB => ?_)
    obtain ⟨L38, eL38⟩ : ∃ z : zz_L, z = zz_up L 22 (x2 + v16).toNatClampNeg ((L 22 (x2 + v16).toNatClampNeg) + (1 : Int64)) := ⟨_, rfl⟩
    rw [← eL38] at hB
    have h := h L38 eL38
    exact zz_vret hx hb hr hlocks hB h dX8_addHeavy_39
theorem zc_X8_addHeavy (l : Launch) (D : va_G) (ca : Nat → ClassId) (a : Nat → Nat) (I : zz_I) (L : zz_L) (sz : Nat) {k1 : Nat} {x2 : Int32} {x3 : Int32} {x4 : Int32} {P : zz_I → zz_L → Prop} (hk1 : zz_dM[k1]? = some (.inl (0, 43))) (h : zp_X8_addHeavy k1 x2 x3 x4 P I L) : Met l yX8_addHeavy [.code yX8_addHeavy cX8_addHeavy 8 none] ({ frames := 1, cells := 0, slots := 0, locals := 23 } : Room) (zz_Pre D ca zz_dM [.ref (a 0), .ref (a k1), .int x2, .int x3, .int x4] a I L sz) (zz_Qv D ca zz_dM (zz_A ca zz_dM a I L sz) a P) 0 0 (zz_A ca zz_dM a I L sz) :=
  zz_start (by decide) (Nat.le_of_ble_eq_true rfl) (fun p e s m below meth c X hsz hA => zq_X8_addHeavy X hA hk1 h)
def zp_X8_in (x0 : Int64) (x2 : Int64) (x4 : Int64) (P : Int32 → Prop) (I : zz_I) (L : zz_L) : Prop := (x0 < x2 → P (0 : Int32)) ∧ (¬ x0 < x2 → (x4 < x0 → P (0 : Int32)) ∧ (¬ x4 < x0 → P (1 : Int32)))
set_option maxHeartbeats 4000000 in
set_option maxRecDepth 100000 in
theorem zq_X8_in {p : Program} {l : Launch} {e : Env} {s : State} {m : MethodId} {args : Array Value} {below : List Frame} {meth : Method} {c : Code} {D : va_G} {ca : Nat → ClassId} {A : Nat → Prop} {a : Nat → Nat}  {P : Int32 → Prop} {I : zz_I} {L : zz_L} {x0 : Int64} {x2 : Int64} {x4 : Int64} (X : zz_X p s m meth c cX8_in RX8 (some .boolean) 6) (hA : ∀ q, s.heap.size ≤ q → A q)   (h : zp_X8_in x0 x2 x4 P I L) : zz_Go p l e ({ frames := 0, cells := 0, slots := 0, locals := 0 } : Room) s m args below meth c 0 0 (MQ below (zz_Qi D ca zz_dM A a (fun r I9 L9 => P r ∧ I9 = I ∧ L9 = L)) args s 0 0 A) D ca zz_dM A 6 0 a [] [(0, .long x0), (2, .long x2), (4, .long x4)] I L := by
  obtain ⟨hx, hb, hml, hown, zw, hr, hlocks⟩ := id X
  intro H locs ls hB hl
  unfold zp_X8_in at h
  refine lv_lload_n hx hb dX8_in_0 rfl (lv_at hl 0 rfl) ?_
  refine lv_lload_n hx hb dX8_in_1 rfl (lv_at hl 1 rfl) ?_
  refine zz_l_lt (tgt := 17) hx hb dX8_in_2 dX8_in_3 (by decide) (fun c2 => ?_) (fun c2 => ?_)
  · have h := h.1 c2
    refine lv_iconst (v := (0 : Int32)) hx hb dX8_in_17 (by decide) ?_
    exact zz_zret hx hb hr hlocks zz_bool0 hB ⟨h, rfl, rfl⟩ dX8_in_18
  · have h := h.2 c2
    refine lv_lload_n hx hb dX8_in_6 rfl (lv_at hl 0 rfl) ?_
    refine lv_lload hx hb dX8_in_7 (lv_at hl 2 rfl) ?_
    refine zz_l_gt (tgt := 17) hx hb dX8_in_9 dX8_in_10 (by decide) (fun c9 => ?_) (fun c9 => ?_)
    · have h := h.1 c9
      refine lv_iconst (v := (0 : Int32)) hx hb dX8_in_17 (by decide) ?_
      exact zz_zret hx hb hr hlocks zz_bool0 hB ⟨h, rfl, rfl⟩ dX8_in_18
    · have h := h.2 c9
      refine lv_iconst (v := (1 : Int32)) hx hb dX8_in_13 (by decide) ?_
      refine lv_goto (tgt := 18) hx hb dX8_in_14 (by decide) ?_
      exact zz_zret hx hb hr hlocks zz_bool1 hB ⟨h, rfl, rfl⟩ dX8_in_18
theorem zc_X8_in (l : Launch) (D : va_G) (ca : Nat → ClassId) (a : Nat → Nat) (I : zz_I) (L : zz_L) (sz : Nat) {x0 : Int64} {x2 : Int64} {x4 : Int64} {P : Int32 → Prop}  (h : zp_X8_in x0 x2 x4 P I L) : Met l yX8_in [.code yX8_in cX8_in 6 (some .boolean)] ({ frames := 0, cells := 0, slots := 0, locals := 0 } : Room) (zz_Pre D ca zz_dM [.long x0, .long x2, .long x4] a I L sz) (zz_Qi D ca zz_dM (zz_A ca zz_dM a I L sz) a (fun r I9 L9 => P r ∧ I9 = I ∧ L9 = L)) 0 0 (zz_A ca zz_dM a I L sz) :=
  zz_start (by decide) (Nat.le_of_ble_eq_true rfl) (fun p e s m below meth c X hsz hA => zq_X8_in X hA  h)
def zp_X8_again_31b (K31 : Int32 → zz_I → zz_L → Prop) (P : Int32 → zz_I → zz_L → Prop) (x1 : Int32) (x2 : Int32) (I : zz_I) (L : zz_L) : Prop := ((43 : Int32) ≤ x2 → ∀ I62 : zz_I, I62 = zz_up I 0 21 (0 : Int32) → (P (I62 0 5) I62 L)) ∧ (¬ (43 : Int32) ≤ x2 → vp_in (((43 : Int32) * x1) + x2) 86 ∧ (vp_in x2 43 ∧ (∀ I53 : zz_I, I53 = zz_up I 14 x2.toNatClampNeg (I 17 (((43 : Int32) * x1) + x2).toNatClampNeg) → (∀ v54 : Int32, v54 = x2 + (1 : Int32) → (K31 v54 I53 L)))))
set_option maxHeartbeats 4000000 in
set_option maxRecDepth 100000 in
theorem zq_X8_again_31b {p : Program} {l : Launch} {e : Env} {s : State} {m : MethodId} {args : Array Value} {below : List Frame} {meth : Method} {c : Code} {D : va_G} {ca : Nat → ClassId} {A : Nat → Prop} {a : Nat → Nat} {K31 : Int32 → zz_I → zz_L → Prop} {P : Int32 → zz_I → zz_L → Prop} {I : zz_I} {L : zz_L} {x1 : Int32} {x2 : Int32} (X : zz_X p s m meth c cX8_again RX8 (some .int) 3) (hA : ∀ q, s.heap.size ≤ q → A q)  (hK31 : ∀ (y2 : Int32) (I8 : zz_I) (L8 : zz_L), K31 y2 I8 L8 → zz_Go p l e ({ frames := 1, cells := 0, slots := 0, locals := 25 } : Room) s m args below meth c 0 0 (MQ below (zz_Qi D ca zz_dM A a P) args s 0 0 A) D ca zz_dM A 3 31 a [] [(0, .ref (a 0)), (1, .int x1), (2, .int y2)] I8 L8) (h : zp_X8_again_31b K31 P x1 x2 I L) : zz_Go p l e ({ frames := 1, cells := 0, slots := 0, locals := 25 } : Room) s m args below meth c 0 0 (MQ below (zz_Qi D ca zz_dM A a P) args s 0 0 A) D ca zz_dM A 3 31 a [] [(0, .ref (a 0)), (1, .int x1), (2, .int x2)] I L := by
  obtain ⟨hx, hb, hml, hown, zw, hr, hlocks⟩ := id X
  intro H locs ls hB hl
  unfold zp_X8_again_31b at h
  refine lv_iload_n hx hb dX8_again_31 rfl (lv_at hl 2 rfl) ?_
  refine lv_bipush (v := (43 : Int32)) hx hb dX8_again_32 (by decide) ?_
  refine lv_icmp_ge (tgt := 60) hx hb dX8_again_34 (by decide) (fun c34 => ?_) (fun c34 => ?_)
  · have h := h.1 c34
    refine lv_aload_n hx hb dX8_again_60 rfl (lv_at hl 0 rfl) ?_
    refine lv_iconst (v := (0 : Int32)) hx hb dX8_again_61 (by decide) ?_
    refine zz_puti hx hb hown zw hB zP_X8_145 zdM_0 rfl dX8_again_62 (fun H locs hB => ?_)
    obtain ⟨I62, eI62⟩ : ∃ z : zz_I, z = zz_up I 0 21 (0 : Int32) := ⟨_, rfl⟩
    rw [← eI62] at hB
    have h := h I62 eI62
    refine lv_aload_n hx hb dX8_again_65 rfl (lv_at hl 0 rfl) ?_
    refine zz_geti hx hb hown zw hB zF_X8_98 zdM_0 rfl dX8_again_66 ?_
    exact zz_iret hx hb hr hlocks hB h dX8_again_69
  · have h := h.2 c34
    refine lv_aload_n hx hb dX8_again_37 rfl (lv_at hl 0 rfl) ?_
    refine zz_getr (k' := 14) hx hb hown zw hB zF_X8_50 zdM_0 rfl rfl dX8_again_38 ?_
    refine lv_iload_n hx hb dX8_again_41 rfl (lv_at hl 2 rfl) ?_
    refine lv_aload_n hx hb dX8_again_42 rfl (lv_at hl 0 rfl) ?_
    refine zz_getr (k' := 17) hx hb hown zw hB zF_X8_59 zdM_0 rfl rfl dX8_again_43 ?_
    refine lv_bipush (v := (43 : Int32)) hx hb dX8_again_46 (by decide) ?_
    refine lv_iload_n hx hb dX8_again_48 rfl (lv_at hl 1 rfl) ?_
    refine lv_imul hx hb dX8_again_49 ?_
    refine lv_iload_n hx hb dX8_again_50 rfl (lv_at hl 2 rfl) ?_
    refine lv_iadd hx hb dX8_again_51 ?_
    obtain ⟨hi52, h⟩ := h
    refine zz_iald hx hb hB zdM_17 hi52 dX8_again_52 ?_
    obtain ⟨hi53, h⟩ := h
    refine zz_iast hx hb hB zdM_14 hi53 dX8_again_53 (fun H locs hB => ?_)
    obtain ⟨I53, eI53⟩ : ∃ z : zz_I, z = zz_up I 14 x2.toNatClampNeg (I 17 (((43 : Int32) * x1) + x2).toNatClampNeg) := ⟨_, rfl⟩
    rw [← eI53] at hB
    have h := h I53 eI53
    obtain ⟨v54, ev54⟩ : ∃ z : Int32, z = x2 + (1 : Int32) := ⟨_, rfl⟩
    have h := h v54 ev54
    refine lv_iinc (v := v54) (lv' := [(2, .int v54), (0, .ref (a 0)), (1, .int x1)]) hx hb dX8_again_54 hl (k := 2) rfl (by rw [ev54]; rfl) (by decide) rfl (fun ls hl => ?_)
    refine lv_goto (tgt := 31) hx hb dX8_again_57 (by decide) ?_
    exact hK31 _ _ _ h H locs ls hB (lv_sub hl [1, 2, 0] rfl)
def zp_X8_again_31  (P : Int32 → zz_I → zz_L → Prop) (x1 : Int32) (x2 : Int32) (I : zz_I) (L : zz_L) : Prop := ∃ (Inv : Int32 → zz_I → zz_L → Prop) (μ : Int32 → zz_I → zz_L → Nat), Inv x2 I L ∧ ∀ (y2 : Int32) (I8 : zz_I) (L8 : zz_L), Inv y2 I8 L8 → zp_X8_again_31b  (fun z2 I7 L7 => Inv z2 I7 L7 ∧ μ z2 I7 L7 < μ y2 I8 L8) P x1 y2 I8 L8
set_option maxHeartbeats 4000000 in
set_option maxRecDepth 100000 in
theorem zq_X8_again_31 {p : Program} {l : Launch} {e : Env} {s : State} {m : MethodId} {args : Array Value} {below : List Frame} {meth : Method} {c : Code} {D : va_G} {ca : Nat → ClassId} {A : Nat → Prop} {a : Nat → Nat}  {P : Int32 → zz_I → zz_L → Prop} {I : zz_I} {L : zz_L} {x1 : Int32} {x2 : Int32} (X : zz_X p s m meth c cX8_again RX8 (some .int) 3) (hA : ∀ q, s.heap.size ≤ q → A q)   (h : zp_X8_again_31  P x1 x2 I L) : zz_Go p l e ({ frames := 1, cells := 0, slots := 0, locals := 25 } : Room) s m args below meth c 0 0 (MQ below (zz_Qi D ca zz_dM A a P) args s 0 0 A) D ca zz_dM A 3 31 a [] [(0, .ref (a 0)), (1, .int x1), (2, .int x2)] I L := by
  unfold zp_X8_again_31 at h
  obtain ⟨Inv, μ, hv0, hs⟩ := h
  have key : ∀ (n9 : Nat) (y2 : Int32) (I8 : zz_I) (L8 : zz_L), μ y2 I8 L8 < n9 → Inv y2 I8 L8 → zz_Go p l e ({ frames := 1, cells := 0, slots := 0, locals := 25 } : Room) s m args below meth c 0 0 (MQ below (zz_Qi D ca zz_dM A a P) args s 0 0 A) D ca zz_dM A 3 31 a [] [(0, .ref (a 0)), (1, .int x1), (2, .int y2)] I8 L8 := by
    intro n9
    induction n9 with
    | zero => intro y2 I8 L8 hn; exact absurd hn (Nat.not_lt_zero _)
    | succ n9 ih =>
      intro y2 I8 L8 hn hi
      exact zq_X8_again_31b (K31 := (fun z2 I7 L7 => Inv z2 I7 L7 ∧ μ z2 I7 L7 < μ y2 I8 L8)) X hA   (fun z2 I7 L7 hz => ih z2 I7 L7 (Nat.lt_of_lt_of_le hz.2 (Nat.le_of_lt_succ hn)) hz.1) (hs y2 I8 L8 hi)
  exact key _ x2 I L (Nat.lt_succ_self _) hv0
def zp_X8_again (x1 : Int32) (P : Int32 → zz_I → zz_L → Prop) (I : zz_I) (L : zz_L) : Prop := ∀ I2 : zz_I, I2 = zz_up I 0 0 (0 : Int32) → (zp_X8_in (x1.toInt64) (0 : Int64) (1 : Int64) (fun r9 => (¬ r9 = 0 → vp_in x1 2 ∧ ((¬ (I2 18 x1.toNatClampNeg) = 0 → zp_X8_again_31 P x1 (0 : Int32) I2 L) ∧ ((I2 18 x1.toNatClampNeg) = 0 → P (-3 : Int32) I2 L))) ∧ (r9 = 0 → P (-1 : Int32) I2 L)) I2 L)
set_option maxHeartbeats 4000000 in
set_option maxRecDepth 100000 in
theorem zq_X8_again {p : Program} {l : Launch} {e : Env} {s : State} {m : MethodId} {args : Array Value} {below : List Frame} {meth : Method} {c : Code} {D : va_G} {ca : Nat → ClassId} {A : Nat → Prop} {a : Nat → Nat}  {P : Int32 → zz_I → zz_L → Prop} {I : zz_I} {L : zz_L} {x1 : Int32} (X : zz_X p s m meth c cX8_again RX8 (some .int) 3) (hA : ∀ q, s.heap.size ≤ q → A q)   (h : zp_X8_again x1 P I L) : zz_Go p l e ({ frames := 1, cells := 0, slots := 0, locals := 25 } : Room) s m args below meth c 0 0 (MQ below (zz_Qi D ca zz_dM A a P) args s 0 0 A) D ca zz_dM A 3 0 a [] [(0, .ref (a 0)), (1, .int x1)] I L := by
  obtain ⟨hx, hb, hml, hown, zw, hr, hlocks⟩ := id X
  intro H locs ls hB hl
  unfold zp_X8_again at h
  refine lv_aload_n hx hb dX8_again_0 rfl (lv_at hl 0 rfl) ?_
  refine lv_iconst (v := (0 : Int32)) hx hb dX8_again_1 (by decide) ?_
  refine zz_puti hx hb hown zw hB zP_X8_94 zdM_0 rfl dX8_again_2 (fun H locs hB => ?_)
  obtain ⟨I2, eI2⟩ : ∃ z : zz_I, z = zz_up I 0 0 (0 : Int32) := ⟨_, rfl⟩
  rw [← eI2] at hB
  have h := h I2 eI2
  refine lv_iload_n hx hb dX8_again_5 rfl (lv_at hl 1 rfl) ?_
  refine lv_i2l (v := x1.toInt64) hx hb dX8_again_6 rfl ?_
  refine lv_lconst (v := (0 : Int64)) hx hb dX8_again_7 (by decide) ?_
  refine lv_lconst (v := (1 : Int64)) hx hb dX8_again_8 (by decide) ?_
  refine zz_goip hB hA (zz_runS (As := [.long (x1.toInt64), .long (0 : Int64), .long (1 : Int64)]) (rest := []) hx hb hml hown zw hB zM_X8_101 (zc_X8_in l D ca a I2 L H.size h) rfl hl.1 rfl (Nat.le_of_ble_eq_true rfl) rfl rfl ⟨Nat.le_of_ble_eq_true rfl, Nat.le_of_ble_eq_true rfl⟩ dX8_again_9 ⟨Nat.le_of_ble_eq_true rfl, Nat.le_of_ble_eq_true rfl⟩) (fun r9 H locs h hB => ?_)
  refine lv_if_ne (tgt := 17) hx hb dX8_again_12 (by decide) (fun c12 => ?_) (fun c12 => ?_)
  · have h := h.1 c12
    refine lv_aload_n hx hb dX8_again_17 rfl (lv_at hl 0 rfl) ?_
    refine zz_getr (k' := 18) hx hb hown zw hB zF_X8_62 zdM_0 rfl rfl dX8_again_18 ?_
    refine lv_iload_n hx hb dX8_again_21 rfl (lv_at hl 1 rfl) ?_
    obtain ⟨hi22, h⟩ := h
    refine zz_zald hx hb hB zdM_18 hi22 dX8_again_22 ?_
    refine lv_if_ne (tgt := 29) hx hb dX8_again_23 (by decide) (fun c23 => ?_) (fun c23 => ?_)
    · have h := h.1 c23
      refine lv_iconst (v := (0 : Int32)) hx hb dX8_again_29 (by decide) ?_
      refine lv_istore_n (lv' := [(2, .int (0 : Int32)), (0, .ref (a 0)), (1, .int x1)]) hx hb dX8_again_30 rfl hl (by decide) rfl (fun ls hl => ?_)
      exact zq_X8_again_31 X hA  h H locs ls hB (lv_sub hl [1, 2, 0] rfl)
    · have h := h.2 c23
      refine lv_bipush (v := (-3 : Int32)) hx hb dX8_again_26 (by decide) ?_
      exact zz_iret hx hb hr hlocks hB h dX8_again_28
  · have h := h.2 c12
    refine lv_iconst (v := (-1 : Int32)) hx hb dX8_again_15 (by decide) ?_
    exact zz_iret hx hb hr hlocks hB h dX8_again_16
theorem zc_X8_again (l : Launch) (D : va_G) (ca : Nat → ClassId) (a : Nat → Nat) (I : zz_I) (L : zz_L) (sz : Nat) {x1 : Int32} {P : Int32 → zz_I → zz_L → Prop}  (h : zp_X8_again x1 P I L) : Met l yX8_again [.code yX8_again cX8_again 3 (some .int)] ({ frames := 1, cells := 0, slots := 0, locals := 25 } : Room) (zz_Pre D ca zz_dM [.ref (a 0), .int x1] a I L sz) (zz_Qi D ca zz_dM (zz_A ca zz_dM a I L sz) a P) 0 0 (zz_A ca zz_dM a I L sz) :=
  zz_start (by decide) (Nat.le_of_ble_eq_true rfl) (fun p e s m below meth c X hsz hA => zq_X8_again X hA  h)
def zp_X8_agrees_125 (K15 : Int32 → Int32 → Prop) (P : Int32 → Prop) (k1 : Nat) (x2 : Int32) (x3 : Int32) (x4 : Int32) (x6 : Int32) (I : zz_I) (L : zz_L) : Prop := ∀ v132 : Int32, v132 = x6 + (1 : Int32) → (K15 (1 : Int32) v132)
set_option maxHeartbeats 4000000 in
set_option maxRecDepth 100000 in
theorem zq_X8_agrees_125 {p : Program} {l : Launch} {e : Env} {s : State} {m : MethodId} {args : Array Value} {below : List Frame} {meth : Method} {c : Code} {D : va_G} {ca : Nat → ClassId} {A : Nat → Prop} {a : Nat → Nat} {K15 : Int32 → Int32 → Prop} {P : Int32 → Prop} {I : zz_I} {L : zz_L} {k1 : Nat} {x2 : Int32} {x3 : Int32} {x4 : Int32} {x6 : Int32} (X : zz_X p s m meth c cX8_agrees RX8 (some .boolean) 9) (hA : ∀ q, s.heap.size ≤ q → A q) (hk1 : zz_dM[k1]? = some (.inl (0, 43))) (hK15 : ∀ (y5 : Int32) (y6 : Int32), K15 y5 y6 → zz_Go p l e ({ frames := 1, cells := 0, slots := 0, locals := 23 } : Room) s m args below meth c 0 0 (MQ below (zz_Qi D ca zz_dM A a (fun r I9 L9 => P r ∧ I9 = I ∧ L9 = L)) args s 0 0 A) D ca zz_dM A 9 15 a [] [(0, .ref (a 0)), (1, .ref (a k1)), (2, .int x2), (3, .int x3), (4, .int x4), (5, .int y5), (6, .int y6)] I L) (h : zp_X8_agrees_125 K15 P k1 x2 x3 x4 x6 I L) : zz_Go p l e ({ frames := 1, cells := 0, slots := 0, locals := 23 } : Room) s m args below meth c 0 0 (MQ below (zz_Qi D ca zz_dM A a (fun r I9 L9 => P r ∧ I9 = I ∧ L9 = L)) args s 0 0 A) D ca zz_dM A 9 125 a [] [(0, .ref (a 0)), (1, .ref (a k1)), (2, .int x2), (3, .int x3), (4, .int x4), (6, .int x6)] I L := by
  obtain ⟨hx, hb, hml, hown, zw, hr, hlocks⟩ := id X
  intro H locs ls hB hl
  unfold zp_X8_agrees_125 at h
  refine lv_iconst (v := (1 : Int32)) hx hb dX8_agrees_125 (by decide) ?_
  refine lv_goto (tgt := 130) hx hb dX8_agrees_126 (by decide) ?_
  refine lv_istore (lv' := [(5, .int (1 : Int32)), (0, .ref (a 0)), (1, .ref (a k1)), (2, .int x2), (3, .int x3), (4, .int x4), (6, .int x6)]) hx hb dX8_agrees_130 hl (by decide) rfl (fun ls hl => ?_)
  obtain ⟨v132, ev132⟩ : ∃ z : Int32, z = x6 + (1 : Int32) := ⟨_, rfl⟩
  have h := h v132 ev132
  refine lv_iinc (v := v132) (lv' := [(6, .int v132), (5, .int (1 : Int32)), (0, .ref (a 0)), (1, .ref (a k1)), (2, .int x2), (3, .int x3), (4, .int x4)]) hx hb dX8_agrees_132 hl (k := 6) rfl (by rw [ev132]; rfl) (by decide) rfl (fun ls hl => ?_)
  refine lv_goto (tgt := 15) hx hb dX8_agrees_135 (by decide) ?_
  exact hK15 _ _ h H locs ls hB (lv_sub hl [2, 3, 4, 5, 6, 1, 0] rfl)
def zp_X8_agrees_94 (K15 : Int32 → Int32 → Prop) (P : Int32 → Prop) (k1 : Nat) (x2 : Int32) (x3 : Int32) (x4 : Int32) (x5 : Int32) (x6 : Int32) (x7 : Int32) (s0 : Int32) (I : zz_I) (L : zz_L) : Prop := (x5 = 0 → ∀ v132 : Int32, v132 = x6 + (1 : Int32) → (K15 (0 : Int32) v132)) ∧ (¬ x5 = 0 → vp_in x6 6 ∧ ((¬ (I 21 x6.toNatClampNeg) = (1 : Int32) → (¬ x7 = 0 → ∀ v132 : Int32, v132 = x6 + (1 : Int32) → (K15 (0 : Int32) v132)) ∧ (x7 = 0 → zp_X8_agrees_125 K15 P k1 x2 x3 x4 x6 I L)) ∧ ((I 21 x6.toNatClampNeg) = (1 : Int32) → (¬ s0 = 0 → ∀ v132 : Int32, v132 = x6 + (1 : Int32) → (K15 (0 : Int32) v132)) ∧ (s0 = 0 → zp_X8_agrees_125 K15 P k1 x2 x3 x4 x6 I L))))
set_option maxHeartbeats 4000000 in
set_option maxRecDepth 100000 in
theorem zq_X8_agrees_94 {p : Program} {l : Launch} {e : Env} {s : State} {m : MethodId} {args : Array Value} {below : List Frame} {meth : Method} {c : Code} {D : va_G} {ca : Nat → ClassId} {A : Nat → Prop} {a : Nat → Nat} {K15 : Int32 → Int32 → Prop} {P : Int32 → Prop} {I : zz_I} {L : zz_L} {k1 : Nat} {x2 : Int32} {x3 : Int32} {x4 : Int32} {x5 : Int32} {x6 : Int32} {x7 : Int32} {s0 : Int32} (X : zz_X p s m meth c cX8_agrees RX8 (some .boolean) 9) (hA : ∀ q, s.heap.size ≤ q → A q) (hk1 : zz_dM[k1]? = some (.inl (0, 43))) (hK15 : ∀ (y5 : Int32) (y6 : Int32), K15 y5 y6 → zz_Go p l e ({ frames := 1, cells := 0, slots := 0, locals := 23 } : Room) s m args below meth c 0 0 (MQ below (zz_Qi D ca zz_dM A a (fun r I9 L9 => P r ∧ I9 = I ∧ L9 = L)) args s 0 0 A) D ca zz_dM A 9 15 a [] [(0, .ref (a 0)), (1, .ref (a k1)), (2, .int x2), (3, .int x3), (4, .int x4), (5, .int y5), (6, .int y6)] I L) (h : zp_X8_agrees_94 K15 P k1 x2 x3 x4 x5 x6 x7 s0 I L) : zz_Go p l e ({ frames := 1, cells := 0, slots := 0, locals := 23 } : Room) s m args below meth c 0 0 (MQ below (zz_Qi D ca zz_dM A a (fun r I9 L9 => P r ∧ I9 = I ∧ L9 = L)) args s 0 0 A) D ca zz_dM A 9 94 a [.int s0] [(0, .ref (a 0)), (1, .ref (a k1)), (2, .int x2), (3, .int x3), (4, .int x4), (5, .int x5), (6, .int x6), (7, .int x7)] I L := by
  obtain ⟨hx, hb, hml, hown, zw, hr, hlocks⟩ := id X
  intro H locs ls hB hl
  unfold zp_X8_agrees_94 at h
  refine lv_istore (lv' := [(8, .int s0), (0, .ref (a 0)), (1, .ref (a k1)), (2, .int x2), (3, .int x3), (4, .int x4), (5, .int x5), (6, .int x6), (7, .int x7)]) hx hb dX8_agrees_94 hl (by decide) rfl (fun ls hl => ?_)
  refine lv_iload hx hb dX8_agrees_96 (lv_at hl 6 rfl) ?_
  refine lv_if_eq (tgt := 129) hx hb dX8_agrees_98 (by decide) (fun c98 => ?_) (fun c98 => ?_)
  · have h := h.1 c98
    refine lv_iconst (v := (0 : Int32)) hx hb dX8_agrees_129 (by decide) ?_
    refine lv_istore (lv' := [(5, .int (0 : Int32)), (8, .int s0), (0, .ref (a 0)), (1, .ref (a k1)), (2, .int x2), (3, .int x3), (4, .int x4), (6, .int x6), (7, .int x7)]) hx hb dX8_agrees_130 hl (by decide) rfl (fun ls hl => ?_)
    obtain ⟨v132, ev132⟩ : ∃ z : Int32, z = x6 + (1 : Int32) := ⟨_, rfl⟩
    have h := h v132 ev132
    refine lv_iinc (v := v132) (lv' := [(6, .int v132), (5, .int (0 : Int32)), (8, .int s0), (0, .ref (a 0)), (1, .ref (a k1)), (2, .int x2), (3, .int x3), (4, .int x4), (7, .int x7)]) hx hb dX8_agrees_132 hl (k := 7) rfl (by rw [ev132]; rfl) (by decide) rfl (fun ls hl => ?_)
    refine lv_goto (tgt := 15) hx hb dX8_agrees_135 (by decide) ?_
    exact hK15 _ _ h H locs ls hB (lv_sub hl [3, 4, 5, 6, 7, 1, 0] rfl)
  · have h := h.2 c98
    refine lv_aload_n hx hb dX8_agrees_101 rfl (lv_at hl 1 rfl) ?_
    refine zz_getr (k' := 21) hx hb hown zw hB zF_X8_71 zdM_0 rfl rfl dX8_agrees_102 ?_
    refine lv_iload hx hb dX8_agrees_105 (lv_at hl 7 rfl) ?_
    obtain ⟨hi107, h⟩ := h
    refine zz_iald hx hb hB zdM_21 hi107 dX8_agrees_107 ?_
    refine lv_iconst (v := (1 : Int32)) hx hb dX8_agrees_108 (by decide) ?_
    refine lv_icmp_ne (tgt := 120) hx hb dX8_agrees_109 (by decide) (fun c109 => ?_) (fun c109 => ?_)
    · have h := h.1 c109
      refine lv_iload hx hb dX8_agrees_120 (lv_at hl 8 rfl) ?_
      refine lv_if_ne (tgt := 129) hx hb dX8_agrees_122 (by decide) (fun c122 => ?_) (fun c122 => ?_)
      · have h := h.1 c122
        refine lv_iconst (v := (0 : Int32)) hx hb dX8_agrees_129 (by decide) ?_
        refine lv_istore (lv' := [(5, .int (0 : Int32)), (8, .int s0), (0, .ref (a 0)), (1, .ref (a k1)), (2, .int x2), (3, .int x3), (4, .int x4), (6, .int x6), (7, .int x7)]) hx hb dX8_agrees_130 hl (by decide) rfl (fun ls hl => ?_)
        obtain ⟨v132, ev132⟩ : ∃ z : Int32, z = x6 + (1 : Int32) := ⟨_, rfl⟩
        have h := h v132 ev132
        refine lv_iinc (v := v132) (lv' := [(6, .int v132), (5, .int (0 : Int32)), (8, .int s0), (0, .ref (a 0)), (1, .ref (a k1)), (2, .int x2), (3, .int x3), (4, .int x4), (7, .int x7)]) hx hb dX8_agrees_132 hl (k := 7) rfl (by rw [ev132]; rfl) (by decide) rfl (fun ls hl => ?_)
        refine lv_goto (tgt := 15) hx hb dX8_agrees_135 (by decide) ?_
        exact hK15 _ _ h H locs ls hB (lv_sub hl [3, 4, 5, 6, 7, 1, 0] rfl)
      · have h := h.2 c122
        exact zq_X8_agrees_125 X hA hk1 hK15 h H locs ls hB (lv_sub hl [1, 2, 3, 4, 5, 7] rfl)
    · have h := h.2 c109
      refine lv_iload hx hb dX8_agrees_112 (lv_at hl 0 rfl) ?_
      refine lv_if_ne (tgt := 129) hx hb dX8_agrees_114 (by decide) (fun c114 => ?_) (fun c114 => ?_)
      · have h := h.1 c114
        refine lv_iconst (v := (0 : Int32)) hx hb dX8_agrees_129 (by decide) ?_
        refine lv_istore (lv' := [(5, .int (0 : Int32)), (8, .int s0), (0, .ref (a 0)), (1, .ref (a k1)), (2, .int x2), (3, .int x3), (4, .int x4), (6, .int x6), (7, .int x7)]) hx hb dX8_agrees_130 hl (by decide) rfl (fun ls hl => ?_)
        obtain ⟨v132, ev132⟩ : ∃ z : Int32, z = x6 + (1 : Int32) := ⟨_, rfl⟩
        have h := h v132 ev132
        refine lv_iinc (v := v132) (lv' := [(6, .int v132), (5, .int (0 : Int32)), (8, .int s0), (0, .ref (a 0)), (1, .ref (a k1)), (2, .int x2), (3, .int x3), (4, .int x4), (7, .int x7)]) hx hb dX8_agrees_132 hl (k := 7) rfl (by rw [ev132]; rfl) (by decide) rfl (fun ls hl => ?_)
        refine lv_goto (tgt := 15) hx hb dX8_agrees_135 (by decide) ?_
        exact hK15 _ _ h H locs ls hB (lv_sub hl [3, 4, 5, 6, 7, 1, 0] rfl)
      · have h := h.2 c114
        refine lv_goto (tgt := 125) hx hb dX8_agrees_117 (by decide) ?_
        exact zq_X8_agrees_125 X hA hk1 hK15 h H locs ls hB (lv_sub hl [1, 2, 3, 4, 5, 7] rfl)
def zp_X8_agrees_84 (K15 : Int32 → Int32 → Prop) (P : Int32 → Prop) (k1 : Nat) (x2 : Int32) (x3 : Int32) (x4 : Int32) (x5 : Int32) (x6 : Int32) (x7 : Int32) (I : zz_I) (L : zz_L) : Prop := (¬ x7 = 0 → zp_X8_agrees_94 K15 P k1 x2 x3 x4 x5 x6 x7 (0 : Int32) I L) ∧ (x7 = 0 → zp_X8_agrees_94 K15 P k1 x2 x3 x4 x5 x6 x7 (1 : Int32) I L)
set_option maxHeartbeats 4000000 in
set_option maxRecDepth 100000 in
theorem zq_X8_agrees_84 {p : Program} {l : Launch} {e : Env} {s : State} {m : MethodId} {args : Array Value} {below : List Frame} {meth : Method} {c : Code} {D : va_G} {ca : Nat → ClassId} {A : Nat → Prop} {a : Nat → Nat} {K15 : Int32 → Int32 → Prop} {P : Int32 → Prop} {I : zz_I} {L : zz_L} {k1 : Nat} {x2 : Int32} {x3 : Int32} {x4 : Int32} {x5 : Int32} {x6 : Int32} {x7 : Int32} (X : zz_X p s m meth c cX8_agrees RX8 (some .boolean) 9) (hA : ∀ q, s.heap.size ≤ q → A q) (hk1 : zz_dM[k1]? = some (.inl (0, 43))) (hK15 : ∀ (y5 : Int32) (y6 : Int32), K15 y5 y6 → zz_Go p l e ({ frames := 1, cells := 0, slots := 0, locals := 23 } : Room) s m args below meth c 0 0 (MQ below (zz_Qi D ca zz_dM A a (fun r I9 L9 => P r ∧ I9 = I ∧ L9 = L)) args s 0 0 A) D ca zz_dM A 9 15 a [] [(0, .ref (a 0)), (1, .ref (a k1)), (2, .int x2), (3, .int x3), (4, .int x4), (5, .int y5), (6, .int y6)] I L) (h : zp_X8_agrees_84 K15 P k1 x2 x3 x4 x5 x6 x7 I L) : zz_Go p l e ({ frames := 1, cells := 0, slots := 0, locals := 23 } : Room) s m args below meth c 0 0 (MQ below (zz_Qi D ca zz_dM A a (fun r I9 L9 => P r ∧ I9 = I ∧ L9 = L)) args s 0 0 A) D ca zz_dM A 9 84 a [] [(0, .ref (a 0)), (1, .ref (a k1)), (2, .int x2), (3, .int x3), (4, .int x4), (5, .int x5), (6, .int x6), (7, .int x7)] I L := by
  obtain ⟨hx, hb, hml, hown, zw, hr, hlocks⟩ := id X
  intro H locs ls hB hl
  unfold zp_X8_agrees_84 at h
  refine lv_iload hx hb dX8_agrees_84 (lv_at hl 7 rfl) ?_
  refine lv_if_ne (tgt := 93) hx hb dX8_agrees_86 (by decide) (fun c86 => ?_) (fun c86 => ?_)
  · have h := h.1 c86
    refine lv_iconst (v := (0 : Int32)) hx hb dX8_agrees_93 (by decide) ?_
    exact zq_X8_agrees_94 X hA hk1 hK15 h H locs ls hB (lv_sub hl [0, 1, 2, 3, 4, 5, 6, 7] rfl)
  · have h := h.2 c86
    refine lv_iconst (v := (1 : Int32)) hx hb dX8_agrees_89 (by decide) ?_
    refine lv_goto (tgt := 94) hx hb dX8_agrees_90 (by decide) ?_
    exact zq_X8_agrees_94 X hA hk1 hK15 h H locs ls hB (lv_sub hl [0, 1, 2, 3, 4, 5, 6, 7] rfl)
def zp_X8_agrees_51 (K15 : Int32 → Int32 → Prop) (P : Int32 → Prop) (k1 : Nat) (x2 : Int32) (x3 : Int32) (x4 : Int32) (x5 : Int32) (x6 : Int32) (s0 : Int32) (I : zz_I) (L : zz_L) : Prop := vp_in x6 6 ∧ (((I 20 x6.toNatClampNeg) < x3 → zp_X8_agrees_94 K15 P k1 x2 x3 x4 x5 x6 s0 (0 : Int32) I L) ∧ (¬ (I 20 x6.toNatClampNeg) < x3 → vp_in x6 6 ∧ (((I 20 x6.toNatClampNeg) ≤ x4 → zp_X8_agrees_84 K15 P k1 x2 x3 x4 x5 x6 s0 I L) ∧ (¬ (I 20 x6.toNatClampNeg) ≤ x4 → vp_in (0 : Int32) 43 ∧ ((¬ x4 = (I k1 (0 : Int32).toNatClampNeg) → zp_X8_agrees_94 K15 P k1 x2 x3 x4 x5 x6 s0 (0 : Int32) I L) ∧ (x4 = (I k1 (0 : Int32).toNatClampNeg) → zp_X8_agrees_84 K15 P k1 x2 x3 x4 x5 x6 s0 I L))))))
set_option maxHeartbeats 4000000 in
set_option maxRecDepth 100000 in
theorem zq_X8_agrees_51 {p : Program} {l : Launch} {e : Env} {s : State} {m : MethodId} {args : Array Value} {below : List Frame} {meth : Method} {c : Code} {D : va_G} {ca : Nat → ClassId} {A : Nat → Prop} {a : Nat → Nat} {K15 : Int32 → Int32 → Prop} {P : Int32 → Prop} {I : zz_I} {L : zz_L} {k1 : Nat} {x2 : Int32} {x3 : Int32} {x4 : Int32} {x5 : Int32} {x6 : Int32} {s0 : Int32} (X : zz_X p s m meth c cX8_agrees RX8 (some .boolean) 9) (hA : ∀ q, s.heap.size ≤ q → A q) (hk1 : zz_dM[k1]? = some (.inl (0, 43))) (hK15 : ∀ (y5 : Int32) (y6 : Int32), K15 y5 y6 → zz_Go p l e ({ frames := 1, cells := 0, slots := 0, locals := 23 } : Room) s m args below meth c 0 0 (MQ below (zz_Qi D ca zz_dM A a (fun r I9 L9 => P r ∧ I9 = I ∧ L9 = L)) args s 0 0 A) D ca zz_dM A 9 15 a [] [(0, .ref (a 0)), (1, .ref (a k1)), (2, .int x2), (3, .int x3), (4, .int x4), (5, .int y5), (6, .int y6)] I L) (h : zp_X8_agrees_51 K15 P k1 x2 x3 x4 x5 x6 s0 I L) : zz_Go p l e ({ frames := 1, cells := 0, slots := 0, locals := 23 } : Room) s m args below meth c 0 0 (MQ below (zz_Qi D ca zz_dM A a (fun r I9 L9 => P r ∧ I9 = I ∧ L9 = L)) args s 0 0 A) D ca zz_dM A 9 51 a [.int s0] [(0, .ref (a 0)), (1, .ref (a k1)), (2, .int x2), (3, .int x3), (4, .int x4), (5, .int x5), (6, .int x6)] I L := by
  obtain ⟨hx, hb, hml, hown, zw, hr, hlocks⟩ := id X
  intro H locs ls hB hl
  unfold zp_X8_agrees_51 at h
  refine lv_istore (lv' := [(7, .int s0), (0, .ref (a 0)), (1, .ref (a k1)), (2, .int x2), (3, .int x3), (4, .int x4), (5, .int x5), (6, .int x6)]) hx hb dX8_agrees_51 hl (by decide) rfl (fun ls hl => ?_)
  refine lv_aload_n hx hb dX8_agrees_53 rfl (lv_at hl 1 rfl) ?_
  refine zz_getr (k' := 20) hx hb hown zw hB zF_X8_68 zdM_0 rfl rfl dX8_agrees_54 ?_
  refine lv_iload hx hb dX8_agrees_57 (lv_at hl 7 rfl) ?_
  obtain ⟨hi59, h⟩ := h
  refine zz_iald hx hb hB zdM_20 hi59 dX8_agrees_59 ?_
  refine lv_iload_n hx hb dX8_agrees_60 rfl (lv_at hl 4 rfl) ?_
  refine lv_icmp_lt (tgt := 93) hx hb dX8_agrees_61 (by decide) (fun c61 => ?_) (fun c61 => ?_)
  · have h := h.1 c61
    refine lv_iconst (v := (0 : Int32)) hx hb dX8_agrees_93 (by decide) ?_
    exact zq_X8_agrees_94 X hA hk1 hK15 h H locs ls hB (lv_sub hl [1, 2, 3, 4, 5, 6, 7, 0] rfl)
  · have h := h.2 c61
    refine lv_aload_n hx hb dX8_agrees_64 rfl (lv_at hl 1 rfl) ?_
    refine zz_getr (k' := 20) hx hb hown zw hB zF_X8_68 zdM_0 rfl rfl dX8_agrees_65 ?_
    refine lv_iload hx hb dX8_agrees_68 (lv_at hl 7 rfl) ?_
    obtain ⟨hi70, h⟩ := h
    refine zz_iald hx hb hB zdM_20 hi70 dX8_agrees_70 ?_
    refine lv_iload hx hb dX8_agrees_71 (lv_at hl 5 rfl) ?_
    refine lv_icmp_le (tgt := 84) hx hb dX8_agrees_73 (by decide) (fun c73 => ?_) (fun c73 => ?_)
    · have h := h.1 c73
      exact zq_X8_agrees_84 X hA hk1 hK15 h H locs ls hB (lv_sub hl [1, 2, 3, 4, 5, 6, 7, 0] rfl)
    · have h := h.2 c73
      refine lv_iload hx hb dX8_agrees_76 (lv_at hl 5 rfl) ?_
      refine lv_aload_n hx hb dX8_agrees_78 rfl (lv_at hl 2 rfl) ?_
      refine lv_iconst (v := (0 : Int32)) hx hb dX8_agrees_79 (by decide) ?_
      obtain ⟨hi80, h⟩ := h
      refine zz_iald hx hb hB hk1 hi80 dX8_agrees_80 ?_
      refine lv_icmp_ne (tgt := 93) hx hb dX8_agrees_81 (by decide) (fun c81 => ?_) (fun c81 => ?_)
      · have h := h.1 c81
        refine lv_iconst (v := (0 : Int32)) hx hb dX8_agrees_93 (by decide) ?_
        exact zq_X8_agrees_94 X hA hk1 hK15 h H locs ls hB (lv_sub hl [1, 2, 3, 4, 5, 6, 7, 0] rfl)
      · have h := h.2 c81
        exact zq_X8_agrees_84 X hA hk1 hK15 h H locs ls hB (lv_sub hl [1, 2, 3, 4, 5, 6, 7, 0] rfl)
def zp_X8_agrees_15b (K15 : Int32 → Int32 → Prop) (P : Int32 → Prop) (k1 : Nat) (x2 : Int32) (x3 : Int32) (x4 : Int32) (x5 : Int32) (x6 : Int32) (I : zz_I) (L : zz_L) : Prop := ((I 0 24) ≤ x6 → zz_bool x5 ∧ (P x5)) ∧ (¬ (I 0 24) ≤ x6 → vp_in x6 6 ∧ ((¬ (I 19 x6.toNatClampNeg) = x2 → zp_X8_agrees_51 K15 P k1 x2 x3 x4 x5 x6 (0 : Int32) I L) ∧ ((I 19 x6.toNatClampNeg) = x2 → vp_in x6 6 ∧ ((¬ (I 20 x6.toNatClampNeg) = x3 → zp_X8_agrees_51 K15 P k1 x2 x3 x4 x5 x6 (0 : Int32) I L) ∧ ((I 20 x6.toNatClampNeg) = x3 → zp_X8_agrees_51 K15 P k1 x2 x3 x4 x5 x6 (1 : Int32) I L)))))
set_option maxHeartbeats 4000000 in
set_option maxRecDepth 100000 in
theorem zq_X8_agrees_15b {p : Program} {l : Launch} {e : Env} {s : State} {m : MethodId} {args : Array Value} {below : List Frame} {meth : Method} {c : Code} {D : va_G} {ca : Nat → ClassId} {A : Nat → Prop} {a : Nat → Nat} {K15 : Int32 → Int32 → Prop} {P : Int32 → Prop} {I : zz_I} {L : zz_L} {k1 : Nat} {x2 : Int32} {x3 : Int32} {x4 : Int32} {x5 : Int32} {x6 : Int32} (X : zz_X p s m meth c cX8_agrees RX8 (some .boolean) 9) (hA : ∀ q, s.heap.size ≤ q → A q) (hk1 : zz_dM[k1]? = some (.inl (0, 43))) (hK15 : ∀ (y5 : Int32) (y6 : Int32), K15 y5 y6 → zz_Go p l e ({ frames := 1, cells := 0, slots := 0, locals := 23 } : Room) s m args below meth c 0 0 (MQ below (zz_Qi D ca zz_dM A a (fun r I9 L9 => P r ∧ I9 = I ∧ L9 = L)) args s 0 0 A) D ca zz_dM A 9 15 a [] [(0, .ref (a 0)), (1, .ref (a k1)), (2, .int x2), (3, .int x3), (4, .int x4), (5, .int y5), (6, .int y6)] I L) (h : zp_X8_agrees_15b K15 P k1 x2 x3 x4 x5 x6 I L) : zz_Go p l e ({ frames := 1, cells := 0, slots := 0, locals := 23 } : Room) s m args below meth c 0 0 (MQ below (zz_Qi D ca zz_dM A a (fun r I9 L9 => P r ∧ I9 = I ∧ L9 = L)) args s 0 0 A) D ca zz_dM A 9 15 a [] [(0, .ref (a 0)), (1, .ref (a k1)), (2, .int x2), (3, .int x3), (4, .int x4), (5, .int x5), (6, .int x6)] I L := by
  obtain ⟨hx, hb, hml, hown, zw, hr, hlocks⟩ := id X
  intro H locs ls hB hl
  unfold zp_X8_agrees_15b at h
  refine lv_iload hx hb dX8_agrees_15 (lv_at hl 6 rfl) ?_
  refine lv_aload_n hx hb dX8_agrees_17 rfl (lv_at hl 0 rfl) ?_
  refine zz_geti hx hb hown zw hB zF_X8_196 zdM_0 rfl dX8_agrees_18 ?_
  refine lv_icmp_ge (tgt := 138) hx hb dX8_agrees_21 (by decide) (fun c21 => ?_) (fun c21 => ?_)
  · have h := h.1 c21
    refine lv_iload hx hb dX8_agrees_138 (lv_at hl 5 rfl) ?_
    obtain ⟨hz140, h⟩ := h
    exact zz_zret hx hb hr hlocks hz140 hB ⟨h, rfl, rfl⟩ dX8_agrees_140
  · have h := h.2 c21
    refine lv_aload_n hx hb dX8_agrees_24 rfl (lv_at hl 0 rfl) ?_
    refine zz_getr (k' := 19) hx hb hown zw hB zF_X8_65 zdM_0 rfl rfl dX8_agrees_25 ?_
    refine lv_iload hx hb dX8_agrees_28 (lv_at hl 6 rfl) ?_
    obtain ⟨hi30, h⟩ := h
    refine zz_iald hx hb hB zdM_19 hi30 dX8_agrees_30 ?_
    refine lv_iload_n hx hb dX8_agrees_31 rfl (lv_at hl 2 rfl) ?_
    refine lv_icmp_ne (tgt := 50) hx hb dX8_agrees_32 (by decide) (fun c32 => ?_) (fun c32 => ?_)
    · have h := h.1 c32
      refine lv_iconst (v := (0 : Int32)) hx hb dX8_agrees_50 (by decide) ?_
      exact zq_X8_agrees_51 X hA hk1 hK15 h H locs ls hB (lv_sub hl [0, 1, 2, 3, 4, 5, 6] rfl)
    · have h := h.2 c32
      refine lv_aload_n hx hb dX8_agrees_35 rfl (lv_at hl 0 rfl) ?_
      refine zz_getr (k' := 20) hx hb hown zw hB zF_X8_68 zdM_0 rfl rfl dX8_agrees_36 ?_
      refine lv_iload hx hb dX8_agrees_39 (lv_at hl 6 rfl) ?_
      obtain ⟨hi41, h⟩ := h
      refine zz_iald hx hb hB zdM_20 hi41 dX8_agrees_41 ?_
      refine lv_iload_n hx hb dX8_agrees_42 rfl (lv_at hl 3 rfl) ?_
      refine lv_icmp_ne (tgt := 50) hx hb dX8_agrees_43 (by decide) (fun c43 => ?_) (fun c43 => ?_)
      · have h := h.1 c43
        refine lv_iconst (v := (0 : Int32)) hx hb dX8_agrees_50 (by decide) ?_
        exact zq_X8_agrees_51 X hA hk1 hK15 h H locs ls hB (lv_sub hl [0, 1, 2, 3, 4, 5, 6] rfl)
      · have h := h.2 c43
        refine lv_iconst (v := (1 : Int32)) hx hb dX8_agrees_46 (by decide) ?_
        refine lv_goto (tgt := 51) hx hb dX8_agrees_47 (by decide) ?_
        exact zq_X8_agrees_51 X hA hk1 hK15 h H locs ls hB (lv_sub hl [0, 1, 2, 3, 4, 5, 6] rfl)
def zp_X8_agrees_15  (P : Int32 → Prop) (k1 : Nat) (x2 : Int32) (x3 : Int32) (x4 : Int32) (x5 : Int32) (x6 : Int32) (I : zz_I) (L : zz_L) : Prop := ∃ (Inv : Int32 → Int32 → Prop) (μ : Int32 → Int32 → Nat), Inv x5 x6 ∧ ∀ (y5 : Int32) (y6 : Int32), Inv y5 y6 → zp_X8_agrees_15b  (fun z5 z6 => Inv z5 z6 ∧ μ z5 z6 < μ y5 y6) P k1 x2 x3 x4 y5 y6 I L
set_option maxHeartbeats 4000000 in
set_option maxRecDepth 100000 in
theorem zq_X8_agrees_15 {p : Program} {l : Launch} {e : Env} {s : State} {m : MethodId} {args : Array Value} {below : List Frame} {meth : Method} {c : Code} {D : va_G} {ca : Nat → ClassId} {A : Nat → Prop} {a : Nat → Nat}  {P : Int32 → Prop} {I : zz_I} {L : zz_L} {k1 : Nat} {x2 : Int32} {x3 : Int32} {x4 : Int32} {x5 : Int32} {x6 : Int32} (X : zz_X p s m meth c cX8_agrees RX8 (some .boolean) 9) (hA : ∀ q, s.heap.size ≤ q → A q) (hk1 : zz_dM[k1]? = some (.inl (0, 43)))  (h : zp_X8_agrees_15  P k1 x2 x3 x4 x5 x6 I L) : zz_Go p l e ({ frames := 1, cells := 0, slots := 0, locals := 23 } : Room) s m args below meth c 0 0 (MQ below (zz_Qi D ca zz_dM A a (fun r I9 L9 => P r ∧ I9 = I ∧ L9 = L)) args s 0 0 A) D ca zz_dM A 9 15 a [] [(0, .ref (a 0)), (1, .ref (a k1)), (2, .int x2), (3, .int x3), (4, .int x4), (5, .int x5), (6, .int x6)] I L := by
  unfold zp_X8_agrees_15 at h
  obtain ⟨Inv, μ, hv0, hs⟩ := h
  have key : ∀ (n9 : Nat) (y5 : Int32) (y6 : Int32), μ y5 y6 < n9 → Inv y5 y6 → zz_Go p l e ({ frames := 1, cells := 0, slots := 0, locals := 23 } : Room) s m args below meth c 0 0 (MQ below (zz_Qi D ca zz_dM A a (fun r I9 L9 => P r ∧ I9 = I ∧ L9 = L)) args s 0 0 A) D ca zz_dM A 9 15 a [] [(0, .ref (a 0)), (1, .ref (a k1)), (2, .int x2), (3, .int x3), (4, .int x4), (5, .int y5), (6, .int y6)] I L := by
    intro n9
    induction n9 with
    | zero => intro y5 y6 hn; exact absurd hn (Nat.not_lt_zero _)
    | succ n9 ih =>
      intro y5 y6 hn hi
      exact zq_X8_agrees_15b (K15 := (fun z5 z6 => Inv z5 z6 ∧ μ z5 z6 < μ y5 y6)) X hA hk1  (fun z5 z6 hz => ih z5 z6 (Nat.lt_of_lt_of_le hz.2 (Nat.le_of_lt_succ hn)) hz.1) (hs y5 y6 hi)
  exact key _ x5 x6 (Nat.lt_succ_self _) hv0
def zp_X8_agrees (k1 : Nat) (x2 : Int32) (x3 : Int32) (P : Int32 → Prop) (I : zz_I) (L : zz_L) : Prop := zp_X8_unitsOf x2 (fun r3 => ∀ v7 : Int32, v7 = x3 + r3 → (zp_X8_agrees_15 P k1 x2 x3 v7 (1 : Int32) (0 : Int32) I L)) I L
set_option maxHeartbeats 4000000 in
set_option maxRecDepth 100000 in
theorem zq_X8_agrees {p : Program} {l : Launch} {e : Env} {s : State} {m : MethodId} {args : Array Value} {below : List Frame} {meth : Method} {c : Code} {D : va_G} {ca : Nat → ClassId} {A : Nat → Prop} {a : Nat → Nat}  {P : Int32 → Prop} {I : zz_I} {L : zz_L} {k1 : Nat} {x2 : Int32} {x3 : Int32} (X : zz_X p s m meth c cX8_agrees RX8 (some .boolean) 9) (hA : ∀ q, s.heap.size ≤ q → A q) (hk1 : zz_dM[k1]? = some (.inl (0, 43)))  (h : zp_X8_agrees k1 x2 x3 P I L) : zz_Go p l e ({ frames := 1, cells := 0, slots := 0, locals := 23 } : Room) s m args below meth c 0 0 (MQ below (zz_Qi D ca zz_dM A a (fun r I9 L9 => P r ∧ I9 = I ∧ L9 = L)) args s 0 0 A) D ca zz_dM A 9 0 a [] [(0, .ref (a 0)), (1, .ref (a k1)), (2, .int x2), (3, .int x3)] I L := by
  obtain ⟨hx, hb, hml, hown, zw, hr, hlocks⟩ := id X
  intro H locs ls hB hl
  unfold zp_X8_agrees at h
  refine lv_iload_n hx hb dX8_agrees_0 rfl (lv_at hl 3 rfl) ?_
  refine lv_aload_n hx hb dX8_agrees_1 rfl (lv_at hl 0 rfl) ?_
  refine lv_iload_n hx hb dX8_agrees_2 rfl (lv_at hl 2 rfl) ?_
  refine zz_goip hB hA (zz_runV (As := [.int x2]) (rest := [.int x3]) hx hb hml hown zw hB zM_X8_152 (zc_X8_unitsOf l D ca a I L H.size h) zdM_0 rfl rfl hl.1 rfl (Nat.le_of_ble_eq_true rfl) rfl rfl ⟨Nat.le_of_ble_eq_true rfl, Nat.le_of_ble_eq_true rfl⟩ dX8_agrees_3 ⟨Nat.le_of_ble_eq_true rfl, Nat.le_of_ble_eq_true rfl⟩) (fun r3 H locs h hB => ?_)
  refine lv_iadd hx hb dX8_agrees_6 ?_
  refine lv_topi (fun v7 ev7 => ?_)
  have h := h v7 ev7
  refine lv_istore (lv' := [(4, .int v7), (0, .ref (a 0)), (1, .ref (a k1)), (2, .int x2), (3, .int x3)]) hx hb dX8_agrees_7 hl (by decide) rfl (fun ls hl => ?_)
  refine lv_iconst (v := (1 : Int32)) hx hb dX8_agrees_9 (by decide) ?_
  refine lv_istore (lv' := [(5, .int (1 : Int32)), (4, .int v7), (0, .ref (a 0)), (1, .ref (a k1)), (2, .int x2), (3, .int x3)]) hx hb dX8_agrees_10 hl (by decide) rfl (fun ls hl => ?_)
  refine lv_iconst (v := (0 : Int32)) hx hb dX8_agrees_12 (by decide) ?_
  refine lv_istore (lv' := [(6, .int (0 : Int32)), (5, .int (1 : Int32)), (4, .int v7), (0, .ref (a 0)), (1, .ref (a k1)), (2, .int x2), (3, .int x3)]) hx hb dX8_agrees_13 hl (by decide) rfl (fun ls hl => ?_)
  exact zq_X8_agrees_15 X hA hk1 h H locs ls hB (lv_sub hl [3, 4, 5, 6, 2, 1, 0] rfl)
theorem zc_X8_agrees (l : Launch) (D : va_G) (ca : Nat → ClassId) (a : Nat → Nat) (I : zz_I) (L : zz_L) (sz : Nat) {k1 : Nat} {x2 : Int32} {x3 : Int32} {P : Int32 → Prop} (hk1 : zz_dM[k1]? = some (.inl (0, 43))) (h : zp_X8_agrees k1 x2 x3 P I L) : Met l yX8_agrees [.code yX8_agrees cX8_agrees 9 (some .boolean)] ({ frames := 1, cells := 0, slots := 0, locals := 23 } : Room) (zz_Pre D ca zz_dM [.ref (a 0), .ref (a k1), .int x2, .int x3] a I L sz) (zz_Qi D ca zz_dM (zz_A ca zz_dM a I L sz) a (fun r I9 L9 => P r ∧ I9 = I ∧ L9 = L)) 0 0 (zz_A ca zz_dM a I L sz) :=
  zz_start (by decide) (Nat.le_of_ble_eq_true rfl) (fun p e s m below meth c X hsz hA => zq_X8_agrees X hA hk1 h)
def zp_X8_has (x0 : Int32) (x1 : Int32) (P : Int32 → Prop) (I : zz_I) (L : zz_L) : Prop := (¬ ((x0 >>> (x1 &&& 31)) &&& (1 : Int32)) = (1 : Int32) → P (0 : Int32)) ∧ (((x0 >>> (x1 &&& 31)) &&& (1 : Int32)) = (1 : Int32) → P (1 : Int32))
set_option maxHeartbeats 4000000 in
set_option maxRecDepth 100000 in
theorem zq_X8_has {p : Program} {l : Launch} {e : Env} {s : State} {m : MethodId} {args : Array Value} {below : List Frame} {meth : Method} {c : Code} {D : va_G} {ca : Nat → ClassId} {A : Nat → Prop} {a : Nat → Nat}  {P : Int32 → Prop} {I : zz_I} {L : zz_L} {x0 : Int32} {x1 : Int32} (X : zz_X p s m meth c cX8_has RX8 (some .boolean) 2) (hA : ∀ q, s.heap.size ≤ q → A q)   (h : zp_X8_has x0 x1 P I L) : zz_Go p l e ({ frames := 0, cells := 0, slots := 0, locals := 0 } : Room) s m args below meth c 0 0 (MQ below (zz_Qi D ca zz_dM A a (fun r I9 L9 => P r ∧ I9 = I ∧ L9 = L)) args s 0 0 A) D ca zz_dM A 2 0 a [] [(0, .int x0), (1, .int x1)] I L := by
  obtain ⟨hx, hb, hml, hown, zw, hr, hlocks⟩ := id X
  intro H locs ls hB hl
  unfold zp_X8_has at h
  refine lv_iload_n hx hb dX8_has_0 rfl (lv_at hl 0 rfl) ?_
  refine lv_iload_n hx hb dX8_has_1 rfl (lv_at hl 1 rfl) ?_
  refine lv_ishr hx hb dX8_has_2 ?_
  refine lv_iconst (v := (1 : Int32)) hx hb dX8_has_3 (by decide) ?_
  refine lv_iand hx hb dX8_has_4 ?_
  refine lv_iconst (v := (1 : Int32)) hx hb dX8_has_5 (by decide) ?_
  refine lv_icmp_ne (tgt := 13) hx hb dX8_has_6 (by decide) (fun c6 => ?_) (fun c6 => ?_)
  · have h := h.1 c6
    refine lv_iconst (v := (0 : Int32)) hx hb dX8_has_13 (by decide) ?_
    exact zz_zret hx hb hr hlocks zz_bool0 hB ⟨h, rfl, rfl⟩ dX8_has_14
  · have h := h.2 c6
    refine lv_iconst (v := (1 : Int32)) hx hb dX8_has_9 (by decide) ?_
    refine lv_goto (tgt := 14) hx hb dX8_has_10 (by decide) ?_
    exact zz_zret hx hb hr hlocks zz_bool1 hB ⟨h, rfl, rfl⟩ dX8_has_14
theorem zc_X8_has (l : Launch) (D : va_G) (ca : Nat → ClassId) (a : Nat → Nat) (I : zz_I) (L : zz_L) (sz : Nat) {x0 : Int32} {x1 : Int32} {P : Int32 → Prop}  (h : zp_X8_has x0 x1 P I L) : Met l yX8_has [.code yX8_has cX8_has 2 (some .boolean)] ({ frames := 0, cells := 0, slots := 0, locals := 0 } : Room) (zz_Pre D ca zz_dM [.int x0, .int x1] a I L sz) (zz_Qi D ca zz_dM (zz_A ca zz_dM a I L sz) a (fun r I9 L9 => P r ∧ I9 = I ∧ L9 = L)) 0 0 (zz_A ca zz_dM a I L sz) :=
  zz_start (by decide) (Nat.le_of_ble_eq_true rfl) (fun p e s m below meth c X hsz hA => zq_X8_has X hA  h)
def zp_X8_mayFollow (k1 : Nat) (x2 : Int32) (x3 : Int32) (P : Int32 → Prop) (I : zz_I) (L : zz_L) : Prop := (¬ x3 = (8 : Int32) → vp_in x3 8 ∧ (vp_in x2 8 ∧ (vp_in (((2 : Int32) + ((3 : Int32) * (I 5 x3.toNatClampNeg))) + (I 5 x2.toNatClampNeg)) 43 ∧ (∀ v27 : Int32, v27 = I k1 (((2 : Int32) + ((3 : Int32) * (I 5 x3.toNatClampNeg))) + (I 5 x2.toNatClampNeg)).toNatClampNeg → ((v27 = (1 : Int32) → P (1 : Int32)) ∧ (¬ v27 = (1 : Int32) → (¬ v27 = (2 : Int32) → P (0 : Int32)) ∧ (v27 = (2 : Int32) → vp_in x3 8 ∧ (vp_in x2 8 ∧ ((¬ (I 6 x3.toNatClampNeg) = (I 6 x2.toNatClampNeg) → P (0 : Int32)) ∧ ((I 6 x3.toNatClampNeg) = (I 6 x2.toNatClampNeg) → P (1 : Int32))))))))))) ∧ (x3 = (8 : Int32) → P (1 : Int32))
set_option maxHeartbeats 4000000 in
set_option maxRecDepth 100000 in
theorem zq_X8_mayFollow {p : Program} {l : Launch} {e : Env} {s : State} {m : MethodId} {args : Array Value} {below : List Frame} {meth : Method} {c : Code} {D : va_G} {ca : Nat → ClassId} {A : Nat → Prop} {a : Nat → Nat}  {P : Int32 → Prop} {I : zz_I} {L : zz_L} {k1 : Nat} {x2 : Int32} {x3 : Int32} (X : zz_X p s m meth c cX8_mayFollow RX8 (some .boolean) 5) (hA : ∀ q, s.heap.size ≤ q → A q) (hk1 : zz_dM[k1]? = some (.inl (0, 43)))  (h : zp_X8_mayFollow k1 x2 x3 P I L) : zz_Go p l e ({ frames := 0, cells := 0, slots := 0, locals := 0 } : Room) s m args below meth c 0 0 (MQ below (zz_Qi D ca zz_dM A a (fun r I9 L9 => P r ∧ I9 = I ∧ L9 = L)) args s 0 0 A) D ca zz_dM A 5 0 a [] [(0, .ref (a 0)), (1, .ref (a k1)), (2, .int x2), (3, .int x3)] I L := by
  obtain ⟨hx, hb, hml, hown, zw, hr, hlocks⟩ := id X
  intro H locs ls hB hl
  unfold zp_X8_mayFollow at h
  refine lv_iload_n hx hb dX8_mayFollow_0 rfl (lv_at hl 3 rfl) ?_
  refine lv_bipush (v := (8 : Int32)) hx hb dX8_mayFollow_1 (by decide) ?_
  refine lv_icmp_ne (tgt := 8) hx hb dX8_mayFollow_3 (by decide) (fun c3 => ?_) (fun c3 => ?_)
  · have h := h.1 c3
    refine lv_aload_n hx hb dX8_mayFollow_8 rfl (lv_at hl 1 rfl) ?_
    refine lv_iconst (v := (2 : Int32)) hx hb dX8_mayFollow_9 (by decide) ?_
    refine lv_iconst (v := (3 : Int32)) hx hb dX8_mayFollow_10 (by decide) ?_
    refine lv_aload_n hx hb dX8_mayFollow_11 rfl (lv_at hl 0 rfl) ?_
    refine zz_getr (k' := 5) hx hb hown zw hB zF_X8_22 zdM_0 rfl rfl dX8_mayFollow_12 ?_
    refine lv_iload_n hx hb dX8_mayFollow_15 rfl (lv_at hl 3 rfl) ?_
    obtain ⟨hi16, h⟩ := h
    refine zz_iald hx hb hB zdM_5 hi16 dX8_mayFollow_16 ?_
    refine lv_imul hx hb dX8_mayFollow_17 ?_
    refine lv_iadd hx hb dX8_mayFollow_18 ?_
    refine lv_aload_n hx hb dX8_mayFollow_19 rfl (lv_at hl 0 rfl) ?_
    refine zz_getr (k' := 5) hx hb hown zw hB zF_X8_22 zdM_0 rfl rfl dX8_mayFollow_20 ?_
    refine lv_iload_n hx hb dX8_mayFollow_23 rfl (lv_at hl 2 rfl) ?_
    obtain ⟨hi24, h⟩ := h
    refine zz_iald hx hb hB zdM_5 hi24 dX8_mayFollow_24 ?_
    refine lv_iadd hx hb dX8_mayFollow_25 ?_
    obtain ⟨hi26, h⟩ := h
    refine zz_iald hx hb hB hk1 hi26 dX8_mayFollow_26 ?_
    refine lv_topi (fun v27 ev27 => ?_)
    have h := h v27 ev27
    refine lv_istore (lv' := [(4, .int v27), (0, .ref (a 0)), (1, .ref (a k1)), (2, .int x2), (3, .int x3)]) hx hb dX8_mayFollow_27 hl (by decide) rfl (fun ls hl => ?_)
    refine lv_iload hx hb dX8_mayFollow_29 (lv_at hl 0 rfl) ?_
    refine lv_iconst (v := (1 : Int32)) hx hb dX8_mayFollow_31 (by decide) ?_
    refine lv_icmp_eq (tgt := 56) hx hb dX8_mayFollow_32 (by decide) (fun c32 => ?_) (fun c32 => ?_)
    · have h := h.1 c32
      refine lv_iconst (v := (1 : Int32)) hx hb dX8_mayFollow_56 (by decide) ?_
      refine lv_goto (tgt := 61) hx hb dX8_mayFollow_57 (by decide) ?_
      exact zz_zret hx hb hr hlocks zz_bool1 hB ⟨h, rfl, rfl⟩ dX8_mayFollow_61
    · have h := h.2 c32
      refine lv_iload hx hb dX8_mayFollow_35 (lv_at hl 0 rfl) ?_
      refine lv_iconst (v := (2 : Int32)) hx hb dX8_mayFollow_37 (by decide) ?_
      refine lv_icmp_ne (tgt := 60) hx hb dX8_mayFollow_38 (by decide) (fun c38 => ?_) (fun c38 => ?_)
      · have h := h.1 c38
        refine lv_iconst (v := (0 : Int32)) hx hb dX8_mayFollow_60 (by decide) ?_
        exact zz_zret hx hb hr hlocks zz_bool0 hB ⟨h, rfl, rfl⟩ dX8_mayFollow_61
      · have h := h.2 c38
        refine lv_aload_n hx hb dX8_mayFollow_41 rfl (lv_at hl 1 rfl) ?_
        refine zz_getr (k' := 6) hx hb hown zw hB zF_X8_25 zdM_0 rfl rfl dX8_mayFollow_42 ?_
        refine lv_iload_n hx hb dX8_mayFollow_45 rfl (lv_at hl 4 rfl) ?_
        obtain ⟨hi46, h⟩ := h
        refine zz_iald hx hb hB zdM_6 hi46 dX8_mayFollow_46 ?_
        refine lv_aload_n hx hb dX8_mayFollow_47 rfl (lv_at hl 1 rfl) ?_
        refine zz_getr (k' := 6) hx hb hown zw hB zF_X8_25 zdM_0 rfl rfl dX8_mayFollow_48 ?_
        refine lv_iload_n hx hb dX8_mayFollow_51 rfl (lv_at hl 3 rfl) ?_
        obtain ⟨hi52, h⟩ := h
        refine zz_iald hx hb hB zdM_6 hi52 dX8_mayFollow_52 ?_
        refine lv_icmp_ne (tgt := 60) hx hb dX8_mayFollow_53 (by decide) (fun c53 => ?_) (fun c53 => ?_)
        · have h := h.1 c53
          refine lv_iconst (v := (0 : Int32)) hx hb dX8_mayFollow_60 (by decide) ?_
          exact zz_zret hx hb hr hlocks zz_bool0 hB ⟨h, rfl, rfl⟩ dX8_mayFollow_61
        · have h := h.2 c53
          refine lv_iconst (v := (1 : Int32)) hx hb dX8_mayFollow_56 (by decide) ?_
          refine lv_goto (tgt := 61) hx hb dX8_mayFollow_57 (by decide) ?_
          exact zz_zret hx hb hr hlocks zz_bool1 hB ⟨h, rfl, rfl⟩ dX8_mayFollow_61
  · have h := h.2 c3
    refine lv_iconst (v := (1 : Int32)) hx hb dX8_mayFollow_6 (by decide) ?_
    exact zz_zret hx hb hr hlocks zz_bool1 hB ⟨h, rfl, rfl⟩ dX8_mayFollow_7
theorem zc_X8_mayFollow (l : Launch) (D : va_G) (ca : Nat → ClassId) (a : Nat → Nat) (I : zz_I) (L : zz_L) (sz : Nat) {k1 : Nat} {x2 : Int32} {x3 : Int32} {P : Int32 → Prop} (hk1 : zz_dM[k1]? = some (.inl (0, 43))) (h : zp_X8_mayFollow k1 x2 x3 P I L) : Met l yX8_mayFollow [.code yX8_mayFollow cX8_mayFollow 5 (some .boolean)] ({ frames := 0, cells := 0, slots := 0, locals := 0 } : Room) (zz_Pre D ca zz_dM [.ref (a 0), .ref (a k1), .int x2, .int x3] a I L sz) (zz_Qi D ca zz_dM (zz_A ca zz_dM a I L sz) a (fun r I9 L9 => P r ∧ I9 = I ∧ L9 = L)) 0 0 (zz_A ca zz_dM a I L sz) :=
  zz_start (by decide) (Nat.le_of_ble_eq_true rfl) (fun p e s m below meth c X hsz hA => zq_X8_mayFollow X hA hk1 h)
def zp_X8_isInGaps_24b (K24 : Int32 → Int32 → Prop) (P : Int32 → Prop) (k1 : Nat) (x2 : Int32) (x3 : Int32) (x4 : Int32) (x5 : Int32) (I : zz_I) (L : zz_L) : Prop := vp_in x3 7 ∧ (((I 2 x3.toNatClampNeg) ≤ x5 → zz_bool x4 ∧ (P x4)) ∧ (¬ (I 2 x3.toNatClampNeg) ≤ x5 → (x4 = 0 → zz_bool x4 ∧ (P x4)) ∧ (¬ x4 = 0 → vp_in (((19 : Int32) + x2) + x5) 43 ∧ ((¬ (I k1 (((19 : Int32) + x2) + x5).toNatClampNeg) = (7 : Int32) → ∀ v61 : Int32, v61 = x5 + (1 : Int32) → (K24 (0 : Int32) v61)) ∧ ((I k1 (((19 : Int32) + x2) + x5).toNatClampNeg) = (7 : Int32) → ∀ v61 : Int32, v61 = x5 + (1 : Int32) → (K24 (1 : Int32) v61))))))
set_option maxHeartbeats 4000000 in
set_option maxRecDepth 100000 in
theorem zq_X8_isInGaps_24b {p : Program} {l : Launch} {e : Env} {s : State} {m : MethodId} {args : Array Value} {below : List Frame} {meth : Method} {c : Code} {D : va_G} {ca : Nat → ClassId} {A : Nat → Prop} {a : Nat → Nat} {K24 : Int32 → Int32 → Prop} {P : Int32 → Prop} {I : zz_I} {L : zz_L} {k1 : Nat} {x2 : Int32} {x3 : Int32} {x4 : Int32} {x5 : Int32} (X : zz_X p s m meth c cX8_isInGaps RX8 (some .boolean) 6) (hA : ∀ q, s.heap.size ≤ q → A q) (hk1 : zz_dM[k1]? = some (.inl (0, 43))) (hK24 : ∀ (y4 : Int32) (y5 : Int32), K24 y4 y5 → zz_Go p l e ({ frames := 0, cells := 0, slots := 0, locals := 0 } : Room) s m args below meth c 0 0 (MQ below (zz_Qi D ca zz_dM A a (fun r I9 L9 => P r ∧ I9 = I ∧ L9 = L)) args s 0 0 A) D ca zz_dM A 6 24 a [] [(0, .ref (a 0)), (1, .ref (a k1)), (2, .int x2), (3, .int x3), (4, .int y4), (5, .int y5)] I L) (h : zp_X8_isInGaps_24b K24 P k1 x2 x3 x4 x5 I L) : zz_Go p l e ({ frames := 0, cells := 0, slots := 0, locals := 0 } : Room) s m args below meth c 0 0 (MQ below (zz_Qi D ca zz_dM A a (fun r I9 L9 => P r ∧ I9 = I ∧ L9 = L)) args s 0 0 A) D ca zz_dM A 6 24 a [] [(0, .ref (a 0)), (1, .ref (a k1)), (2, .int x2), (3, .int x3), (4, .int x4), (5, .int x5)] I L := by
  obtain ⟨hx, hb, hml, hown, zw, hr, hlocks⟩ := id X
  intro H locs ls hB hl
  unfold zp_X8_isInGaps_24b at h
  refine lv_iload hx hb dX8_isInGaps_24 (lv_at hl 5 rfl) ?_
  refine lv_aload_n hx hb dX8_isInGaps_26 rfl (lv_at hl 0 rfl) ?_
  refine zz_getr (k' := 2) hx hb hown zw hB zF_X8_13 zdM_0 rfl rfl dX8_isInGaps_27 ?_
  refine lv_iload_n hx hb dX8_isInGaps_30 rfl (lv_at hl 3 rfl) ?_
  obtain ⟨hi31, h⟩ := h
  refine zz_iald hx hb hB zdM_2 hi31 dX8_isInGaps_31 ?_
  refine lv_icmp_ge (tgt := 67) hx hb dX8_isInGaps_32 (by decide) (fun c32 => ?_) (fun c32 => ?_)
  · have h := h.1 c32
    refine lv_iload hx hb dX8_isInGaps_67 (lv_at hl 4 rfl) ?_
    obtain ⟨hz69, h⟩ := h
    exact zz_zret hx hb hr hlocks hz69 hB ⟨h, rfl, rfl⟩ dX8_isInGaps_69
  · have h := h.2 c32
    refine lv_iload hx hb dX8_isInGaps_35 (lv_at hl 4 rfl) ?_
    refine lv_if_eq (tgt := 67) hx hb dX8_isInGaps_37 (by decide) (fun c37 => ?_) (fun c37 => ?_)
    · have h := h.1 c37
      refine lv_iload hx hb dX8_isInGaps_67 (lv_at hl 4 rfl) ?_
      obtain ⟨hz69, h⟩ := h
      exact zz_zret hx hb hr hlocks hz69 hB ⟨h, rfl, rfl⟩ dX8_isInGaps_69
    · have h := h.2 c37
      refine lv_aload_n hx hb dX8_isInGaps_40 rfl (lv_at hl 1 rfl) ?_
      refine lv_bipush (v := (19 : Int32)) hx hb dX8_isInGaps_41 (by decide) ?_
      refine lv_iload_n hx hb dX8_isInGaps_43 rfl (lv_at hl 2 rfl) ?_
      refine lv_iadd hx hb dX8_isInGaps_44 ?_
      refine lv_iload hx hb dX8_isInGaps_45 (lv_at hl 5 rfl) ?_
      refine lv_iadd hx hb dX8_isInGaps_47 ?_
      obtain ⟨hi48, h⟩ := h
      refine zz_iald hx hb hB hk1 hi48 dX8_isInGaps_48 ?_
      refine lv_bipush (v := (7 : Int32)) hx hb dX8_isInGaps_49 (by decide) ?_
      refine lv_icmp_ne (tgt := 58) hx hb dX8_isInGaps_51 (by decide) (fun c51 => ?_) (fun c51 => ?_)
      · have h := h.1 c51
        refine lv_iconst (v := (0 : Int32)) hx hb dX8_isInGaps_58 (by decide) ?_
        refine lv_istore (lv' := [(4, .int (0 : Int32)), (0, .ref (a 0)), (1, .ref (a k1)), (2, .int x2), (3, .int x3), (5, .int x5)]) hx hb dX8_isInGaps_59 hl (by decide) rfl (fun ls hl => ?_)
        obtain ⟨v61, ev61⟩ : ∃ z : Int32, z = x5 + (1 : Int32) := ⟨_, rfl⟩
        have h := h v61 ev61
        refine lv_iinc (v := v61) (lv' := [(5, .int v61), (4, .int (0 : Int32)), (0, .ref (a 0)), (1, .ref (a k1)), (2, .int x2), (3, .int x3)]) hx hb dX8_isInGaps_61 hl (k := 5) rfl (by rw [ev61]; rfl) (by decide) rfl (fun ls hl => ?_)
        refine lv_goto (tgt := 24) hx hb dX8_isInGaps_64 (by decide) ?_
        exact hK24 _ _ h H locs ls hB (lv_sub hl [2, 3, 4, 5, 1, 0] rfl)
      · have h := h.2 c51
        refine lv_iconst (v := (1 : Int32)) hx hb dX8_isInGaps_54 (by decide) ?_
        refine lv_goto (tgt := 59) hx hb dX8_isInGaps_55 (by decide) ?_
        refine lv_istore (lv' := [(4, .int (1 : Int32)), (0, .ref (a 0)), (1, .ref (a k1)), (2, .int x2), (3, .int x3), (5, .int x5)]) hx hb dX8_isInGaps_59 hl (by decide) rfl (fun ls hl => ?_)
        obtain ⟨v61, ev61⟩ : ∃ z : Int32, z = x5 + (1 : Int32) := ⟨_, rfl⟩
        have h := h v61 ev61
        refine lv_iinc (v := v61) (lv' := [(5, .int v61), (4, .int (1 : Int32)), (0, .ref (a 0)), (1, .ref (a k1)), (2, .int x2), (3, .int x3)]) hx hb dX8_isInGaps_61 hl (k := 5) rfl (by rw [ev61]; rfl) (by decide) rfl (fun ls hl => ?_)
        refine lv_goto (tgt := 24) hx hb dX8_isInGaps_64 (by decide) ?_
        exact hK24 _ _ h H locs ls hB (lv_sub hl [2, 3, 4, 5, 1, 0] rfl)
def zp_X8_isInGaps_24  (P : Int32 → Prop) (k1 : Nat) (x2 : Int32) (x3 : Int32) (x4 : Int32) (x5 : Int32) (I : zz_I) (L : zz_L) : Prop := ∃ (Inv : Int32 → Int32 → Prop) (μ : Int32 → Int32 → Nat), Inv x4 x5 ∧ ∀ (y4 : Int32) (y5 : Int32), Inv y4 y5 → zp_X8_isInGaps_24b  (fun z4 z5 => Inv z4 z5 ∧ μ z4 z5 < μ y4 y5) P k1 x2 x3 y4 y5 I L
set_option maxHeartbeats 4000000 in
set_option maxRecDepth 100000 in
theorem zq_X8_isInGaps_24 {p : Program} {l : Launch} {e : Env} {s : State} {m : MethodId} {args : Array Value} {below : List Frame} {meth : Method} {c : Code} {D : va_G} {ca : Nat → ClassId} {A : Nat → Prop} {a : Nat → Nat}  {P : Int32 → Prop} {I : zz_I} {L : zz_L} {k1 : Nat} {x2 : Int32} {x3 : Int32} {x4 : Int32} {x5 : Int32} (X : zz_X p s m meth c cX8_isInGaps RX8 (some .boolean) 6) (hA : ∀ q, s.heap.size ≤ q → A q) (hk1 : zz_dM[k1]? = some (.inl (0, 43)))  (h : zp_X8_isInGaps_24  P k1 x2 x3 x4 x5 I L) : zz_Go p l e ({ frames := 0, cells := 0, slots := 0, locals := 0 } : Room) s m args below meth c 0 0 (MQ below (zz_Qi D ca zz_dM A a (fun r I9 L9 => P r ∧ I9 = I ∧ L9 = L)) args s 0 0 A) D ca zz_dM A 6 24 a [] [(0, .ref (a 0)), (1, .ref (a k1)), (2, .int x2), (3, .int x3), (4, .int x4), (5, .int x5)] I L := by
  unfold zp_X8_isInGaps_24 at h
  obtain ⟨Inv, μ, hv0, hs⟩ := h
  have key : ∀ (n9 : Nat) (y4 : Int32) (y5 : Int32), μ y4 y5 < n9 → Inv y4 y5 → zz_Go p l e ({ frames := 0, cells := 0, slots := 0, locals := 0 } : Room) s m args below meth c 0 0 (MQ below (zz_Qi D ca zz_dM A a (fun r I9 L9 => P r ∧ I9 = I ∧ L9 = L)) args s 0 0 A) D ca zz_dM A 6 24 a [] [(0, .ref (a 0)), (1, .ref (a k1)), (2, .int x2), (3, .int x3), (4, .int y4), (5, .int y5)] I L := by
    intro n9
    induction n9 with
    | zero => intro y4 y5 hn; exact absurd hn (Nat.not_lt_zero _)
    | succ n9 ih =>
      intro y4 y5 hn hi
      exact zq_X8_isInGaps_24b (K24 := (fun z4 z5 => Inv z4 z5 ∧ μ z4 z5 < μ y4 y5)) X hA hk1  (fun z4 z5 hz => ih z4 z5 (Nat.lt_of_lt_of_le hz.2 (Nat.le_of_lt_succ hn)) hz.1) (hs y4 y5 hi)
  exact key _ x4 x5 (Nat.lt_succ_self _) hv0
def zp_X8_isInGaps (k1 : Nat) (x2 : Int32) (x3 : Int32) (P : Int32 → Prop) (I : zz_I) (L : zz_L) : Prop := vp_in x3 7 ∧ (vp_in (0 : Int32) 43 ∧ (((I k1 (0 : Int32).toNatClampNeg) < (x2 + (I 2 x3.toNatClampNeg)) → zp_X8_isInGaps_24 P k1 x2 x3 (0 : Int32) (0 : Int32) I L) ∧ (¬ (I k1 (0 : Int32).toNatClampNeg) < (x2 + (I 2 x3.toNatClampNeg)) → zp_X8_isInGaps_24 P k1 x2 x3 (1 : Int32) (0 : Int32) I L)))
set_option maxHeartbeats 4000000 in
set_option maxRecDepth 100000 in
theorem zq_X8_isInGaps {p : Program} {l : Launch} {e : Env} {s : State} {m : MethodId} {args : Array Value} {below : List Frame} {meth : Method} {c : Code} {D : va_G} {ca : Nat → ClassId} {A : Nat → Prop} {a : Nat → Nat}  {P : Int32 → Prop} {I : zz_I} {L : zz_L} {k1 : Nat} {x2 : Int32} {x3 : Int32} (X : zz_X p s m meth c cX8_isInGaps RX8 (some .boolean) 6) (hA : ∀ q, s.heap.size ≤ q → A q) (hk1 : zz_dM[k1]? = some (.inl (0, 43)))  (h : zp_X8_isInGaps k1 x2 x3 P I L) : zz_Go p l e ({ frames := 0, cells := 0, slots := 0, locals := 0 } : Room) s m args below meth c 0 0 (MQ below (zz_Qi D ca zz_dM A a (fun r I9 L9 => P r ∧ I9 = I ∧ L9 = L)) args s 0 0 A) D ca zz_dM A 6 0 a [] [(0, .ref (a 0)), (1, .ref (a k1)), (2, .int x2), (3, .int x3)] I L := by
  obtain ⟨hx, hb, hml, hown, zw, hr, hlocks⟩ := id X
  intro H locs ls hB hl
  unfold zp_X8_isInGaps at h
  refine lv_iload_n hx hb dX8_isInGaps_0 rfl (lv_at hl 2 rfl) ?_
  refine lv_aload_n hx hb dX8_isInGaps_1 rfl (lv_at hl 0 rfl) ?_
  refine zz_getr (k' := 2) hx hb hown zw hB zF_X8_13 zdM_0 rfl rfl dX8_isInGaps_2 ?_
  refine lv_iload_n hx hb dX8_isInGaps_5 rfl (lv_at hl 3 rfl) ?_
  obtain ⟨hi6, h⟩ := h
  refine zz_iald hx hb hB zdM_2 hi6 dX8_isInGaps_6 ?_
  refine lv_iadd hx hb dX8_isInGaps_7 ?_
  refine lv_aload_n hx hb dX8_isInGaps_8 rfl (lv_at hl 1 rfl) ?_
  refine lv_iconst (v := (0 : Int32)) hx hb dX8_isInGaps_9 (by decide) ?_
  obtain ⟨hi10, h⟩ := h
  refine zz_iald hx hb hB hk1 hi10 dX8_isInGaps_10 ?_
  refine lv_icmp_gt (tgt := 18) hx hb dX8_isInGaps_11 (by decide) (fun c11 => ?_) (fun c11 => ?_)
  · have h := h.1 c11
    refine lv_iconst (v := (0 : Int32)) hx hb dX8_isInGaps_18 (by decide) ?_
    refine lv_istore (lv' := [(4, .int (0 : Int32)), (0, .ref (a 0)), (1, .ref (a k1)), (2, .int x2), (3, .int x3)]) hx hb dX8_isInGaps_19 hl (by decide) rfl (fun ls hl => ?_)
    refine lv_iconst (v := (0 : Int32)) hx hb dX8_isInGaps_21 (by decide) ?_
    refine lv_istore (lv' := [(5, .int (0 : Int32)), (4, .int (0 : Int32)), (0, .ref (a 0)), (1, .ref (a k1)), (2, .int x2), (3, .int x3)]) hx hb dX8_isInGaps_22 hl (by decide) rfl (fun ls hl => ?_)
    exact zq_X8_isInGaps_24 X hA hk1 h H locs ls hB (lv_sub hl [2, 3, 4, 5, 1, 0] rfl)
  · have h := h.2 c11
    refine lv_iconst (v := (1 : Int32)) hx hb dX8_isInGaps_14 (by decide) ?_
    refine lv_goto (tgt := 19) hx hb dX8_isInGaps_15 (by decide) ?_
    refine lv_istore (lv' := [(4, .int (1 : Int32)), (0, .ref (a 0)), (1, .ref (a k1)), (2, .int x2), (3, .int x3)]) hx hb dX8_isInGaps_19 hl (by decide) rfl (fun ls hl => ?_)
    refine lv_iconst (v := (0 : Int32)) hx hb dX8_isInGaps_21 (by decide) ?_
    refine lv_istore (lv' := [(5, .int (0 : Int32)), (4, .int (1 : Int32)), (0, .ref (a 0)), (1, .ref (a k1)), (2, .int x2), (3, .int x3)]) hx hb dX8_isInGaps_22 hl (by decide) rfl (fun ls hl => ?_)
    exact zq_X8_isInGaps_24 X hA hk1 h H locs ls hB (lv_sub hl [2, 3, 4, 5, 1, 0] rfl)
theorem zc_X8_isInGaps (l : Launch) (D : va_G) (ca : Nat → ClassId) (a : Nat → Nat) (I : zz_I) (L : zz_L) (sz : Nat) {k1 : Nat} {x2 : Int32} {x3 : Int32} {P : Int32 → Prop} (hk1 : zz_dM[k1]? = some (.inl (0, 43))) (h : zp_X8_isInGaps k1 x2 x3 P I L) : Met l yX8_isInGaps [.code yX8_isInGaps cX8_isInGaps 6 (some .boolean)] ({ frames := 0, cells := 0, slots := 0, locals := 0 } : Room) (zz_Pre D ca zz_dM [.ref (a 0), .ref (a k1), .int x2, .int x3] a I L sz) (zz_Qi D ca zz_dM (zz_A ca zz_dM a I L sz) a (fun r I9 L9 => P r ∧ I9 = I ∧ L9 = L)) 0 0 (zz_A ca zz_dM a I L sz) :=
  zz_start (by decide) (Nat.le_of_ble_eq_true rfl) (fun p e s m below meth c X hsz hA => zq_X8_isInGaps X hA hk1 h)
def zp_X8_canLie (k1 : Nat) (x2 : Int32) (x3 : Int32) (P : Int32 → Prop) (I : zz_I) (L : zz_L) : Prop := vp_in (0 : Int32) 43 ∧ (((I k1 (0 : Int32).toNatClampNeg) ≤ x2 → P (0 : Int32)) ∧ (¬ (I k1 (0 : Int32).toNatClampNeg) ≤ x2 → vp_in ((19 : Int32) + x2) 43 ∧ (((I k1 ((19 : Int32) + x2).toNatClampNeg) = x3 → P (1 : Int32)) ∧ (¬ (I k1 ((19 : Int32) + x2).toNatClampNeg) = x3 → zp_X8_isInGaps k1 x2 x3 (fun r21 => (r21 = 0 → P (0 : Int32)) ∧ (¬ r21 = 0 → P (1 : Int32))) I L))))
set_option maxHeartbeats 4000000 in
set_option maxRecDepth 100000 in
theorem zq_X8_canLie {p : Program} {l : Launch} {e : Env} {s : State} {m : MethodId} {args : Array Value} {below : List Frame} {meth : Method} {c : Code} {D : va_G} {ca : Nat → ClassId} {A : Nat → Prop} {a : Nat → Nat}  {P : Int32 → Prop} {I : zz_I} {L : zz_L} {k1 : Nat} {x2 : Int32} {x3 : Int32} (X : zz_X p s m meth c cX8_canLie RX8 (some .boolean) 4) (hA : ∀ q, s.heap.size ≤ q → A q) (hk1 : zz_dM[k1]? = some (.inl (0, 43)))  (h : zp_X8_canLie k1 x2 x3 P I L) : zz_Go p l e ({ frames := 1, cells := 0, slots := 0, locals := 25 } : Room) s m args below meth c 0 0 (MQ below (zz_Qi D ca zz_dM A a (fun r I9 L9 => P r ∧ I9 = I ∧ L9 = L)) args s 0 0 A) D ca zz_dM A 4 0 a [] [(0, .ref (a 0)), (1, .ref (a k1)), (2, .int x2), (3, .int x3)] I L := by
  obtain ⟨hx, hb, hml, hown, zw, hr, hlocks⟩ := id X
  intro H locs ls hB hl
  unfold zp_X8_canLie at h
  refine lv_iload_n hx hb dX8_canLie_0 rfl (lv_at hl 2 rfl) ?_
  refine lv_aload_n hx hb dX8_canLie_1 rfl (lv_at hl 1 rfl) ?_
  refine lv_iconst (v := (0 : Int32)) hx hb dX8_canLie_2 (by decide) ?_
  obtain ⟨hi3, h⟩ := h
  refine zz_iald hx hb hB hk1 hi3 dX8_canLie_3 ?_
  refine lv_icmp_ge (tgt := 31) hx hb dX8_canLie_4 (by decide) (fun c4 => ?_) (fun c4 => ?_)
  · have h := h.1 c4
    refine lv_iconst (v := (0 : Int32)) hx hb dX8_canLie_31 (by decide) ?_
    exact zz_zret hx hb hr hlocks zz_bool0 hB ⟨h, rfl, rfl⟩ dX8_canLie_32
  · have h := h.2 c4
    refine lv_aload_n hx hb dX8_canLie_7 rfl (lv_at hl 1 rfl) ?_
    refine lv_bipush (v := (19 : Int32)) hx hb dX8_canLie_8 (by decide) ?_
    refine lv_iload_n hx hb dX8_canLie_10 rfl (lv_at hl 2 rfl) ?_
    refine lv_iadd hx hb dX8_canLie_11 ?_
    obtain ⟨hi12, h⟩ := h
    refine zz_iald hx hb hB hk1 hi12 dX8_canLie_12 ?_
    refine lv_iload_n hx hb dX8_canLie_13 rfl (lv_at hl 3 rfl) ?_
    refine lv_icmp_eq (tgt := 27) hx hb dX8_canLie_14 (by decide) (fun c14 => ?_) (fun c14 => ?_)
    · have h := h.1 c14
      refine lv_iconst (v := (1 : Int32)) hx hb dX8_canLie_27 (by decide) ?_
      refine lv_goto (tgt := 32) hx hb dX8_canLie_28 (by decide) ?_
      exact zz_zret hx hb hr hlocks zz_bool1 hB ⟨h, rfl, rfl⟩ dX8_canLie_32
    · have h := h.2 c14
      refine lv_aload_n hx hb dX8_canLie_17 rfl (lv_at hl 0 rfl) ?_
      refine lv_aload_n hx hb dX8_canLie_18 rfl (lv_at hl 1 rfl) ?_
      refine lv_iload_n hx hb dX8_canLie_19 rfl (lv_at hl 2 rfl) ?_
      refine lv_iload_n hx hb dX8_canLie_20 rfl (lv_at hl 3 rfl) ?_
      refine zz_goip hB hA (zz_runV (As := [.ref (a k1), .int x2, .int x3]) (rest := []) hx hb hml hown zw hB zM_X8_160 (zc_X8_isInGaps l D ca a I L H.size hk1 h) zdM_0 rfl rfl hl.1 rfl (Nat.le_of_ble_eq_true rfl) rfl rfl ⟨Nat.le_of_ble_eq_true rfl, Nat.le_of_ble_eq_true rfl⟩ dX8_canLie_21 ⟨Nat.le_of_ble_eq_true rfl, Nat.le_of_ble_eq_true rfl⟩) (fun r21 H locs h hB => ?_)
      refine lv_if_eq (tgt := 31) hx hb dX8_canLie_24 (by decide) (fun c24 => ?_) (fun c24 => ?_)
      · have h := h.1 c24
        refine lv_iconst (v := (0 : Int32)) hx hb dX8_canLie_31 (by decide) ?_
        exact zz_zret hx hb hr hlocks zz_bool0 hB ⟨h, rfl, rfl⟩ dX8_canLie_32
      · have h := h.2 c24
        refine lv_iconst (v := (1 : Int32)) hx hb dX8_canLie_27 (by decide) ?_
        refine lv_goto (tgt := 32) hx hb dX8_canLie_28 (by decide) ?_
        exact zz_zret hx hb hr hlocks zz_bool1 hB ⟨h, rfl, rfl⟩ dX8_canLie_32
theorem zc_X8_canLie (l : Launch) (D : va_G) (ca : Nat → ClassId) (a : Nat → Nat) (I : zz_I) (L : zz_L) (sz : Nat) {k1 : Nat} {x2 : Int32} {x3 : Int32} {P : Int32 → Prop} (hk1 : zz_dM[k1]? = some (.inl (0, 43))) (h : zp_X8_canLie k1 x2 x3 P I L) : Met l yX8_canLie [.code yX8_canLie cX8_canLie 4 (some .boolean)] ({ frames := 1, cells := 0, slots := 0, locals := 25 } : Room) (zz_Pre D ca zz_dM [.ref (a 0), .ref (a k1), .int x2, .int x3] a I L sz) (zz_Qi D ca zz_dM (zz_A ca zz_dM a I L sz) a (fun r I9 L9 => P r ∧ I9 = I ∧ L9 = L)) 0 0 (zz_A ca zz_dM a I L sz) :=
  zz_start (by decide) (Nat.le_of_ble_eq_true rfl) (fun p e s m below meth c X hsz hA => zq_X8_canLie X hA hk1 h)
def zp_X8_wordLies_9b (K9 : Int32 → Int32 → Int32 → Prop) (P : Int32 → Prop) (k1 : Nat) (x2 : Int32) (x4 : Int32) (x5 : Int32) (x6 : Int32) (I : zz_I) (L : zz_L) : Prop := vp_in x2 8 ∧ (((I 3 x2.toNatClampNeg) ≤ x6 → zz_bool x4 ∧ (P x4)) ∧ (¬ (I 3 x2.toNatClampNeg) ≤ x6 → (x4 = 0 → zz_bool x4 ∧ (P x4)) ∧ (¬ x4 = 0 → vp_in (((5 : Int32) * x2) + x6) 40 ∧ (∀ v36 : Int32, v36 = I 4 (((5 : Int32) * x2) + x6).toNatClampNeg → (zp_X8_canLie k1 x5 v36 (fun r44 => vp_in v36 7 ∧ (∀ v59 : Int32, v59 = x5 + (I 2 v36.toNatClampNeg) → (∀ v61 : Int32, v61 = x6 + (1 : Int32) → (K9 r44 v59 v61)))) I L)))))
set_option maxHeartbeats 4000000 in
set_option maxRecDepth 100000 in
theorem zq_X8_wordLies_9b {p : Program} {l : Launch} {e : Env} {s : State} {m : MethodId} {args : Array Value} {below : List Frame} {meth : Method} {c : Code} {D : va_G} {ca : Nat → ClassId} {A : Nat → Prop} {a : Nat → Nat} {K9 : Int32 → Int32 → Int32 → Prop} {P : Int32 → Prop} {I : zz_I} {L : zz_L} {k1 : Nat} {x2 : Int32} {x4 : Int32} {x5 : Int32} {x6 : Int32} (X : zz_X p s m meth c cX8_wordLies RX8 (some .boolean) 8) (hA : ∀ q, s.heap.size ≤ q → A q) (hk1 : zz_dM[k1]? = some (.inl (0, 43))) (hK9 : ∀ (y4 : Int32) (y5 : Int32) (y6 : Int32), K9 y4 y5 y6 → zz_Go p l e ({ frames := 2, cells := 0, slots := 0, locals := 48 } : Room) s m args below meth c 0 0 (MQ below (zz_Qi D ca zz_dM A a (fun r I9 L9 => P r ∧ I9 = I ∧ L9 = L)) args s 0 0 A) D ca zz_dM A 8 9 a [] [(0, .ref (a 0)), (1, .ref (a k1)), (2, .int x2), (4, .int y4), (5, .int y5), (6, .int y6)] I L) (h : zp_X8_wordLies_9b K9 P k1 x2 x4 x5 x6 I L) : zz_Go p l e ({ frames := 2, cells := 0, slots := 0, locals := 48 } : Room) s m args below meth c 0 0 (MQ below (zz_Qi D ca zz_dM A a (fun r I9 L9 => P r ∧ I9 = I ∧ L9 = L)) args s 0 0 A) D ca zz_dM A 8 9 a [] [(0, .ref (a 0)), (1, .ref (a k1)), (2, .int x2), (4, .int x4), (5, .int x5), (6, .int x6)] I L := by
  obtain ⟨hx, hb, hml, hown, zw, hr, hlocks⟩ := id X
  intro H locs ls hB hl
  unfold zp_X8_wordLies_9b at h
  refine lv_iload hx hb dX8_wordLies_9 (lv_at hl 5 rfl) ?_
  refine lv_aload_n hx hb dX8_wordLies_11 rfl (lv_at hl 0 rfl) ?_
  refine zz_getr (k' := 3) hx hb hown zw hB zF_X8_16 zdM_0 rfl rfl dX8_wordLies_12 ?_
  refine lv_iload_n hx hb dX8_wordLies_15 rfl (lv_at hl 2 rfl) ?_
  obtain ⟨hi16, h⟩ := h
  refine zz_iald hx hb hB zdM_3 hi16 dX8_wordLies_16 ?_
  refine lv_icmp_ge (tgt := 67) hx hb dX8_wordLies_17 (by decide) (fun c17 => ?_) (fun c17 => ?_)
  · have h := h.1 c17
    refine lv_iload hx hb dX8_wordLies_67 (lv_at hl 3 rfl) ?_
    obtain ⟨hz69, h⟩ := h
    exact zz_zret hx hb hr hlocks hz69 hB ⟨h, rfl, rfl⟩ dX8_wordLies_69
  · have h := h.2 c17
    refine lv_iload hx hb dX8_wordLies_20 (lv_at hl 3 rfl) ?_
    refine lv_if_eq (tgt := 67) hx hb dX8_wordLies_22 (by decide) (fun c22 => ?_) (fun c22 => ?_)
    · have h := h.1 c22
      refine lv_iload hx hb dX8_wordLies_67 (lv_at hl 3 rfl) ?_
      obtain ⟨hz69, h⟩ := h
      exact zz_zret hx hb hr hlocks hz69 hB ⟨h, rfl, rfl⟩ dX8_wordLies_69
    · have h := h.2 c22
      refine lv_aload_n hx hb dX8_wordLies_25 rfl (lv_at hl 0 rfl) ?_
      refine zz_getr (k' := 4) hx hb hown zw hB zF_X8_19 zdM_0 rfl rfl dX8_wordLies_26 ?_
      refine lv_iconst (v := (5 : Int32)) hx hb dX8_wordLies_29 (by decide) ?_
      refine lv_iload_n hx hb dX8_wordLies_30 rfl (lv_at hl 2 rfl) ?_
      refine lv_imul hx hb dX8_wordLies_31 ?_
      refine lv_iload hx hb dX8_wordLies_32 (lv_at hl 5 rfl) ?_
      refine lv_iadd hx hb dX8_wordLies_34 ?_
      obtain ⟨hi35, h⟩ := h
      refine zz_iald hx hb hB zdM_4 hi35 dX8_wordLies_35 ?_
      refine lv_topi (fun v36 ev36 => ?_)
      have h := h v36 ev36
      refine lv_istore (lv' := [(7, .int v36), (0, .ref (a 0)), (1, .ref (a k1)), (2, .int x2), (4, .int x4), (5, .int x5), (6, .int x6)]) hx hb dX8_wordLies_36 hl (by decide) rfl (fun ls hl => ?_)
      refine lv_aload_n hx hb dX8_wordLies_38 rfl (lv_at hl 1 rfl) ?_
      refine lv_aload_n hx hb dX8_wordLies_39 rfl (lv_at hl 2 rfl) ?_
      refine lv_iload hx hb dX8_wordLies_40 (lv_at hl 5 rfl) ?_
      refine lv_iload hx hb dX8_wordLies_42 (lv_at hl 0 rfl) ?_
      refine zz_goip hB hA (zz_runV (As := [.ref (a k1), .int x5, .int v36]) (rest := []) hx hb hml hown zw hB zM_X8_164 (zc_X8_canLie l D ca a I L H.size hk1 h) zdM_0 rfl rfl hl.1 rfl (Nat.le_of_ble_eq_true rfl) rfl rfl ⟨Nat.le_of_ble_eq_true rfl, Nat.le_of_ble_eq_true rfl⟩ dX8_wordLies_44 ⟨Nat.le_of_ble_eq_true rfl, Nat.le_of_ble_eq_true rfl⟩) (fun r44 H locs h hB => ?_)
      refine lv_istore (lv' := [(4, .int r44), (7, .int v36), (0, .ref (a 0)), (1, .ref (a k1)), (2, .int x2), (5, .int x5), (6, .int x6)]) hx hb dX8_wordLies_47 hl (by decide) rfl (fun ls hl => ?_)
      refine lv_iload hx hb dX8_wordLies_49 (lv_at hl 5 rfl) ?_
      refine lv_aload_n hx hb dX8_wordLies_51 rfl (lv_at hl 2 rfl) ?_
      refine zz_getr (k' := 2) hx hb hown zw hB zF_X8_13 zdM_0 rfl rfl dX8_wordLies_52 ?_
      refine lv_iload hx hb dX8_wordLies_55 (lv_at hl 1 rfl) ?_
      obtain ⟨hi57, h⟩ := h
      refine zz_iald hx hb hB zdM_2 hi57 dX8_wordLies_57 ?_
      refine lv_iadd hx hb dX8_wordLies_58 ?_
      refine lv_topi (fun v59 ev59 => ?_)
      have h := h v59 ev59
      refine lv_istore (lv' := [(5, .int v59), (4, .int r44), (7, .int v36), (0, .ref (a 0)), (1, .ref (a k1)), (2, .int x2), (6, .int x6)]) hx hb dX8_wordLies_59 hl (by decide) rfl (fun ls hl => ?_)
      obtain ⟨v61, ev61⟩ : ∃ z : Int32, z = x6 + (1 : Int32) := ⟨_, rfl⟩
      have h := h v61 ev61
      refine lv_iinc (v := v61) (lv' := [(6, .int v61), (5, .int v59), (4, .int r44), (7, .int v36), (0, .ref (a 0)), (1, .ref (a k1)), (2, .int x2)]) hx hb dX8_wordLies_61 hl (k := 6) rfl (by rw [ev61]; rfl) (by decide) rfl (fun ls hl => ?_)
      refine lv_goto (tgt := 9) hx hb dX8_wordLies_64 (by decide) ?_
      exact hK9 _ _ _ h H locs ls hB (lv_sub hl [4, 5, 6, 2, 1, 0] rfl)
def zp_X8_wordLies_9  (P : Int32 → Prop) (k1 : Nat) (x2 : Int32) (x4 : Int32) (x5 : Int32) (x6 : Int32) (I : zz_I) (L : zz_L) : Prop := ∃ (Inv : Int32 → Int32 → Int32 → Prop) (μ : Int32 → Int32 → Int32 → Nat), Inv x4 x5 x6 ∧ ∀ (y4 : Int32) (y5 : Int32) (y6 : Int32), Inv y4 y5 y6 → zp_X8_wordLies_9b  (fun z4 z5 z6 => Inv z4 z5 z6 ∧ μ z4 z5 z6 < μ y4 y5 y6) P k1 x2 y4 y5 y6 I L
set_option maxHeartbeats 4000000 in
set_option maxRecDepth 100000 in
theorem zq_X8_wordLies_9 {p : Program} {l : Launch} {e : Env} {s : State} {m : MethodId} {args : Array Value} {below : List Frame} {meth : Method} {c : Code} {D : va_G} {ca : Nat → ClassId} {A : Nat → Prop} {a : Nat → Nat}  {P : Int32 → Prop} {I : zz_I} {L : zz_L} {k1 : Nat} {x2 : Int32} {x4 : Int32} {x5 : Int32} {x6 : Int32} (X : zz_X p s m meth c cX8_wordLies RX8 (some .boolean) 8) (hA : ∀ q, s.heap.size ≤ q → A q) (hk1 : zz_dM[k1]? = some (.inl (0, 43)))  (h : zp_X8_wordLies_9  P k1 x2 x4 x5 x6 I L) : zz_Go p l e ({ frames := 2, cells := 0, slots := 0, locals := 48 } : Room) s m args below meth c 0 0 (MQ below (zz_Qi D ca zz_dM A a (fun r I9 L9 => P r ∧ I9 = I ∧ L9 = L)) args s 0 0 A) D ca zz_dM A 8 9 a [] [(0, .ref (a 0)), (1, .ref (a k1)), (2, .int x2), (4, .int x4), (5, .int x5), (6, .int x6)] I L := by
  unfold zp_X8_wordLies_9 at h
  obtain ⟨Inv, μ, hv0, hs⟩ := h
  have key : ∀ (n9 : Nat) (y4 : Int32) (y5 : Int32) (y6 : Int32), μ y4 y5 y6 < n9 → Inv y4 y5 y6 → zz_Go p l e ({ frames := 2, cells := 0, slots := 0, locals := 48 } : Room) s m args below meth c 0 0 (MQ below (zz_Qi D ca zz_dM A a (fun r I9 L9 => P r ∧ I9 = I ∧ L9 = L)) args s 0 0 A) D ca zz_dM A 8 9 a [] [(0, .ref (a 0)), (1, .ref (a k1)), (2, .int x2), (4, .int y4), (5, .int y5), (6, .int y6)] I L := by
    intro n9
    induction n9 with
    | zero => intro y4 y5 y6 hn; exact absurd hn (Nat.not_lt_zero _)
    | succ n9 ih =>
      intro y4 y5 y6 hn hi
      exact zq_X8_wordLies_9b (K9 := (fun z4 z5 z6 => Inv z4 z5 z6 ∧ μ z4 z5 z6 < μ y4 y5 y6)) X hA hk1  (fun z4 z5 z6 hz => ih z4 z5 z6 (Nat.lt_of_lt_of_le hz.2 (Nat.le_of_lt_succ hn)) hz.1) (hs y4 y5 y6 hi)
  exact key _ x4 x5 x6 (Nat.lt_succ_self _) hv0
def zp_X8_wordLies (k1 : Nat) (x2 : Int32) (x3 : Int32) (P : Int32 → Prop) (I : zz_I) (L : zz_L) : Prop := zp_X8_wordLies_9 P k1 x2 (1 : Int32) x3 (0 : Int32) I L
set_option maxHeartbeats 4000000 in
set_option maxRecDepth 100000 in
theorem zq_X8_wordLies {p : Program} {l : Launch} {e : Env} {s : State} {m : MethodId} {args : Array Value} {below : List Frame} {meth : Method} {c : Code} {D : va_G} {ca : Nat → ClassId} {A : Nat → Prop} {a : Nat → Nat}  {P : Int32 → Prop} {I : zz_I} {L : zz_L} {k1 : Nat} {x2 : Int32} {x3 : Int32} (X : zz_X p s m meth c cX8_wordLies RX8 (some .boolean) 8) (hA : ∀ q, s.heap.size ≤ q → A q) (hk1 : zz_dM[k1]? = some (.inl (0, 43)))  (h : zp_X8_wordLies k1 x2 x3 P I L) : zz_Go p l e ({ frames := 2, cells := 0, slots := 0, locals := 48 } : Room) s m args below meth c 0 0 (MQ below (zz_Qi D ca zz_dM A a (fun r I9 L9 => P r ∧ I9 = I ∧ L9 = L)) args s 0 0 A) D ca zz_dM A 8 0 a [] [(0, .ref (a 0)), (1, .ref (a k1)), (2, .int x2), (3, .int x3)] I L := by
  obtain ⟨hx, hb, hml, hown, zw, hr, hlocks⟩ := id X
  intro H locs ls hB hl
  unfold zp_X8_wordLies at h
  refine lv_iconst (v := (1 : Int32)) hx hb dX8_wordLies_0 (by decide) ?_
  refine lv_istore (lv' := [(4, .int (1 : Int32)), (0, .ref (a 0)), (1, .ref (a k1)), (2, .int x2), (3, .int x3)]) hx hb dX8_wordLies_1 hl (by decide) rfl (fun ls hl => ?_)
  refine lv_iload_n hx hb dX8_wordLies_3 rfl (lv_at hl 4 rfl) ?_
  refine lv_istore (lv' := [(5, .int x3), (4, .int (1 : Int32)), (0, .ref (a 0)), (1, .ref (a k1)), (2, .int x2), (3, .int x3)]) hx hb dX8_wordLies_4 hl (by decide) rfl (fun ls hl => ?_)
  refine lv_iconst (v := (0 : Int32)) hx hb dX8_wordLies_6 (by decide) ?_
  refine lv_istore (lv' := [(6, .int (0 : Int32)), (5, .int x3), (4, .int (1 : Int32)), (0, .ref (a 0)), (1, .ref (a k1)), (2, .int x2), (3, .int x3)]) hx hb dX8_wordLies_7 hl (by decide) rfl (fun ls hl => ?_)
  exact zq_X8_wordLies_9 X hA hk1 h H locs ls hB (lv_sub hl [3, 4, 5, 2, 1, 0] rfl)
theorem zc_X8_wordLies (l : Launch) (D : va_G) (ca : Nat → ClassId) (a : Nat → Nat) (I : zz_I) (L : zz_L) (sz : Nat) {k1 : Nat} {x2 : Int32} {x3 : Int32} {P : Int32 → Prop} (hk1 : zz_dM[k1]? = some (.inl (0, 43))) (h : zp_X8_wordLies k1 x2 x3 P I L) : Met l yX8_wordLies [.code yX8_wordLies cX8_wordLies 8 (some .boolean)] ({ frames := 2, cells := 0, slots := 0, locals := 48 } : Room) (zz_Pre D ca zz_dM [.ref (a 0), .ref (a k1), .int x2, .int x3] a I L sz) (zz_Qi D ca zz_dM (zz_A ca zz_dM a I L sz) a (fun r I9 L9 => P r ∧ I9 = I ∧ L9 = L)) 0 0 (zz_A ca zz_dM a I L sz) :=
  zz_start (by decide) (Nat.le_of_ble_eq_true rfl) (fun p e s m below meth c X hsz hA => zq_X8_wordLies X hA hk1 h)
def zp_X8_fits (k1 : Nat) (x2 : Int32) (x3 : Int32) (x4 : Int32) (P : Int32 → Prop) (I : zz_I) (L : zz_L) : Prop := vp_in (1 : Int32) 43 ∧ (zp_X8_has (I k1 (1 : Int32).toNatClampNeg) x2 (fun r4 => (¬ r4 = 0 → P (0 : Int32)) ∧ (r4 = 0 → zp_X8_mayFollow k1 x2 x4 (fun r15 => (r15 = 0 → P (0 : Int32)) ∧ (¬ r15 = 0 → zp_X8_wordLies k1 x2 x3 (fun r25 => (¬ r25 = 0 → zp_X8_unitsOf x2 (fun r36 => ∀ v40 : Int32, v40 = x3 + r36 → (vp_in (0 : Int32) 43 ∧ ((v40 = (I k1 (0 : Int32).toNatClampNeg) → P (1 : Int32)) ∧ (¬ v40 = (I k1 (0 : Int32).toNatClampNeg) → zp_X8_canLie k1 v40 (6 : Int32) (fun r56 => (r56 = 0 → P (0 : Int32)) ∧ (¬ r56 = 0 → P (1 : Int32))) I L)))) I L) ∧ (r25 = 0 → P (0 : Int32))) I L)) I L)) I L)
set_option maxHeartbeats 4000000 in
set_option maxRecDepth 100000 in
theorem zq_X8_fits {p : Program} {l : Launch} {e : Env} {s : State} {m : MethodId} {args : Array Value} {below : List Frame} {meth : Method} {c : Code} {D : va_G} {ca : Nat → ClassId} {A : Nat → Prop} {a : Nat → Nat}  {P : Int32 → Prop} {I : zz_I} {L : zz_L} {k1 : Nat} {x2 : Int32} {x3 : Int32} {x4 : Int32} (X : zz_X p s m meth c cX8_fits RX8 (some .boolean) 6) (hA : ∀ q, s.heap.size ≤ q → A q) (hk1 : zz_dM[k1]? = some (.inl (0, 43)))  (h : zp_X8_fits k1 x2 x3 x4 P I L) : zz_Go p l e ({ frames := 3, cells := 0, slots := 0, locals := 75 } : Room) s m args below meth c 0 0 (MQ below (zz_Qi D ca zz_dM A a (fun r I9 L9 => P r ∧ I9 = I ∧ L9 = L)) args s 0 0 A) D ca zz_dM A 6 0 a [] [(0, .ref (a 0)), (1, .ref (a k1)), (2, .int x2), (3, .int x3), (4, .int x4)] I L := by
  obtain ⟨hx, hb, hml, hown, zw, hr, hlocks⟩ := id X
  intro H locs ls hB hl
  unfold zp_X8_fits at h
  refine lv_aload_n hx hb dX8_fits_0 rfl (lv_at hl 1 rfl) ?_
  refine lv_iconst (v := (1 : Int32)) hx hb dX8_fits_1 (by decide) ?_
  obtain ⟨hi2, h⟩ := h
  refine zz_iald hx hb hB hk1 hi2 dX8_fits_2 ?_
  refine lv_iload_n hx hb dX8_fits_3 rfl (lv_at hl 2 rfl) ?_
  refine zz_goip hB hA (zz_runS (As := [.int (I k1 (1 : Int32).toNatClampNeg), .int x2]) (rest := []) hx hb hml hown zw hB zM_X8_186 (zc_X8_has l D ca a I L H.size h) rfl hl.1 rfl (Nat.le_of_ble_eq_true rfl) rfl rfl ⟨Nat.le_of_ble_eq_true rfl, Nat.le_of_ble_eq_true rfl⟩ dX8_fits_4 ⟨Nat.le_of_ble_eq_true rfl, Nat.le_of_ble_eq_true rfl⟩) (fun r4 H locs h hB => ?_)
  refine lv_if_ne (tgt := 31) hx hb dX8_fits_7 (by decide) (fun c7 => ?_) (fun c7 => ?_)
  · have h := h.1 c7
    refine lv_iconst (v := (0 : Int32)) hx hb dX8_fits_31 (by decide) ?_
    exact zz_zret hx hb hr hlocks zz_bool0 hB ⟨h, rfl, rfl⟩ dX8_fits_32
  · have h := h.2 c7
    refine lv_aload_n hx hb dX8_fits_10 rfl (lv_at hl 0 rfl) ?_
    refine lv_aload_n hx hb dX8_fits_11 rfl (lv_at hl 1 rfl) ?_
    refine lv_iload_n hx hb dX8_fits_12 rfl (lv_at hl 2 rfl) ?_
    refine lv_iload hx hb dX8_fits_13 (lv_at hl 4 rfl) ?_
    refine zz_goip hB hA (zz_runV (As := [.ref (a k1), .int x2, .int x4]) (rest := []) hx hb hml hown zw hB zM_X8_190 (zc_X8_mayFollow l D ca a I L H.size hk1 h) zdM_0 rfl rfl hl.1 rfl (Nat.le_of_ble_eq_true rfl) rfl rfl ⟨Nat.le_of_ble_eq_true rfl, Nat.le_of_ble_eq_true rfl⟩ dX8_fits_15 ⟨Nat.le_of_ble_eq_true rfl, Nat.le_of_ble_eq_true rfl⟩) (fun r15 H locs h hB => ?_)
    refine lv_if_eq (tgt := 31) hx hb dX8_fits_18 (by decide) (fun c18 => ?_) (fun c18 => ?_)
    · have h := h.1 c18
      refine lv_iconst (v := (0 : Int32)) hx hb dX8_fits_31 (by decide) ?_
      exact zz_zret hx hb hr hlocks zz_bool0 hB ⟨h, rfl, rfl⟩ dX8_fits_32
    · have h := h.2 c18
      refine lv_aload_n hx hb dX8_fits_21 rfl (lv_at hl 0 rfl) ?_
      refine lv_aload_n hx hb dX8_fits_22 rfl (lv_at hl 1 rfl) ?_
      refine lv_iload_n hx hb dX8_fits_23 rfl (lv_at hl 2 rfl) ?_
      refine lv_iload_n hx hb dX8_fits_24 rfl (lv_at hl 3 rfl) ?_
      refine zz_goip hB hA (zz_runV (As := [.ref (a k1), .int x2, .int x3]) (rest := []) hx hb hml hown zw hB zM_X8_193 (zc_X8_wordLies l D ca a I L H.size hk1 h) zdM_0 rfl rfl hl.1 rfl (Nat.le_of_ble_eq_true rfl) rfl rfl ⟨Nat.le_of_ble_eq_true rfl, Nat.le_of_ble_eq_true rfl⟩ dX8_fits_25 ⟨Nat.le_of_ble_eq_true rfl, Nat.le_of_ble_eq_true rfl⟩) (fun r25 H locs h hB => ?_)
      refine lv_if_ne (tgt := 33) hx hb dX8_fits_28 (by decide) (fun c28 => ?_) (fun c28 => ?_)
      · have h := h.1 c28
        refine lv_iload_n hx hb dX8_fits_33 rfl (lv_at hl 3 rfl) ?_
        refine lv_aload_n hx hb dX8_fits_34 rfl (lv_at hl 0 rfl) ?_
        refine lv_iload_n hx hb dX8_fits_35 rfl (lv_at hl 2 rfl) ?_
        refine zz_goip hB hA (zz_runV (As := [.int x2]) (rest := [.int x3]) hx hb hml hown zw hB zM_X8_152 (zc_X8_unitsOf l D ca a I L H.size h) zdM_0 rfl rfl hl.1 rfl (Nat.le_of_ble_eq_true rfl) rfl rfl ⟨Nat.le_of_ble_eq_true rfl, Nat.le_of_ble_eq_true rfl⟩ dX8_fits_36 ⟨Nat.le_of_ble_eq_true rfl, Nat.le_of_ble_eq_true rfl⟩) (fun r36 H locs h hB => ?_)
        refine lv_iadd hx hb dX8_fits_39 ?_
        refine lv_topi (fun v40 ev40 => ?_)
        have h := h v40 ev40
        refine lv_istore (lv' := [(5, .int v40), (0, .ref (a 0)), (1, .ref (a k1)), (2, .int x2), (3, .int x3), (4, .int x4)]) hx hb dX8_fits_40 hl (by decide) rfl (fun ls hl => ?_)
        refine lv_iload hx hb dX8_fits_42 (lv_at hl 0 rfl) ?_
        refine lv_aload_n hx hb dX8_fits_44 rfl (lv_at hl 2 rfl) ?_
        refine lv_iconst (v := (0 : Int32)) hx hb dX8_fits_45 (by decide) ?_
        obtain ⟨hi46, h⟩ := h
        refine zz_iald hx hb hB hk1 hi46 dX8_fits_46 ?_
        refine lv_icmp_eq (tgt := 62) hx hb dX8_fits_47 (by decide) (fun c47 => ?_) (fun c47 => ?_)
        · have h := h.1 c47
          refine lv_iconst (v := (1 : Int32)) hx hb dX8_fits_62 (by decide) ?_
          refine lv_goto (tgt := 67) hx hb dX8_fits_63 (by decide) ?_
          exact zz_zret hx hb hr hlocks zz_bool1 hB ⟨h, rfl, rfl⟩ dX8_fits_67
        · have h := h.2 c47
          refine lv_aload_n hx hb dX8_fits_50 rfl (lv_at hl 1 rfl) ?_
          refine lv_aload_n hx hb dX8_fits_51 rfl (lv_at hl 2 rfl) ?_
          refine lv_iload hx hb dX8_fits_52 (lv_at hl 0 rfl) ?_
          refine lv_bipush (v := (6 : Int32)) hx hb dX8_fits_54 (by decide) ?_
          refine zz_goip hB hA (zz_runV (As := [.ref (a k1), .int v40, .int (6 : Int32)]) (rest := []) hx hb hml hown zw hB zM_X8_164 (zc_X8_canLie l D ca a I L H.size hk1 h) zdM_0 rfl rfl hl.1 rfl (Nat.le_of_ble_eq_true rfl) rfl rfl ⟨Nat.le_of_ble_eq_true rfl, Nat.le_of_ble_eq_true rfl⟩ dX8_fits_56 ⟨Nat.le_of_ble_eq_true rfl, Nat.le_of_ble_eq_true rfl⟩) (fun r56 H locs h hB => ?_)
          refine lv_if_eq (tgt := 66) hx hb dX8_fits_59 (by decide) (fun c59 => ?_) (fun c59 => ?_)
          · have h := h.1 c59
            refine lv_iconst (v := (0 : Int32)) hx hb dX8_fits_66 (by decide) ?_
            exact zz_zret hx hb hr hlocks zz_bool0 hB ⟨h, rfl, rfl⟩ dX8_fits_67
          · have h := h.2 c59
            refine lv_iconst (v := (1 : Int32)) hx hb dX8_fits_62 (by decide) ?_
            refine lv_goto (tgt := 67) hx hb dX8_fits_63 (by decide) ?_
            exact zz_zret hx hb hr hlocks zz_bool1 hB ⟨h, rfl, rfl⟩ dX8_fits_67
      · have h := h.2 c28
        refine lv_iconst (v := (0 : Int32)) hx hb dX8_fits_31 (by decide) ?_
        exact zz_zret hx hb hr hlocks zz_bool0 hB ⟨h, rfl, rfl⟩ dX8_fits_32
theorem zc_X8_fits (l : Launch) (D : va_G) (ca : Nat → ClassId) (a : Nat → Nat) (I : zz_I) (L : zz_L) (sz : Nat) {k1 : Nat} {x2 : Int32} {x3 : Int32} {x4 : Int32} {P : Int32 → Prop} (hk1 : zz_dM[k1]? = some (.inl (0, 43))) (h : zp_X8_fits k1 x2 x3 x4 P I L) : Met l yX8_fits [.code yX8_fits cX8_fits 6 (some .boolean)] ({ frames := 3, cells := 0, slots := 0, locals := 75 } : Room) (zz_Pre D ca zz_dM [.ref (a 0), .ref (a k1), .int x2, .int x3, .int x4] a I L sz) (zz_Qi D ca zz_dM (zz_A ca zz_dM a I L sz) a (fun r I9 L9 => P r ∧ I9 = I ∧ L9 = L)) 0 0 (zz_A ca zz_dM a I L sz) :=
  zz_start (by decide) (Nat.le_of_ble_eq_true rfl) (fun p e s m below meth c X hsz hA => zq_X8_fits X hA hk1 h)
def zp_X8_layHeavy_105 (K4 : Int32 → zz_I → zz_L → Prop) (K11 : Int32 → zz_I → zz_L → Prop) (K61 : Int32 → zz_I → zz_L → Prop) (P : zz_I → zz_L → Prop) (k1 : Nat) (x2 : Int32) (x3 : Int32) (x4 : Int32) (x5 : Int32) (x6 : Int32) (I : zz_I) (L : zz_L) : Prop := zp_X8_addHeavy k1 x5 x6 x3 (fun I112 L112 => ∀ v115 : Int32, v115 = x6 + (1 : Int32) → (K61 v115 I112 L112)) I L
set_option maxHeartbeats 4000000 in
set_option maxRecDepth 100000 in
theorem zq_X8_layHeavy_105 {p : Program} {l : Launch} {e : Env} {s : State} {m : MethodId} {args : Array Value} {below : List Frame} {meth : Method} {c : Code} {D : va_G} {ca : Nat → ClassId} {A : Nat → Prop} {a : Nat → Nat} {K4 : Int32 → zz_I → zz_L → Prop} {K11 : Int32 → zz_I → zz_L → Prop} {K61 : Int32 → zz_I → zz_L → Prop} {P : zz_I → zz_L → Prop} {I : zz_I} {L : zz_L} {k1 : Nat} {x2 : Int32} {x3 : Int32} {x4 : Int32} {x5 : Int32} {x6 : Int32} (X : zz_X p s m meth c cX8_layHeavy RX8 none 7) (hA : ∀ q, s.heap.size ≤ q → A q) (hk1 : zz_dM[k1]? = some (.inl (0, 43))) (hK4 : ∀ (y3 : Int32) (I8 : zz_I) (L8 : zz_L), K4 y3 I8 L8 → zz_Go p l e ({ frames := 4, cells := 0, slots := 0, locals := 100 } : Room) s m args below meth c 0 0 (MQ below (zz_Qv D ca zz_dM A a P) args s 0 0 A) D ca zz_dM A 7 4 a [] [(0, .ref (a 0)), (1, .ref (a k1)), (2, .int x2), (3, .int y3)] I8 L8) (hK11 : ∀ (y4 : Int32) (I8 : zz_I) (L8 : zz_L), K11 y4 I8 L8 → zz_Go p l e ({ frames := 4, cells := 0, slots := 0, locals := 100 } : Room) s m args below meth c 0 0 (MQ below (zz_Qv D ca zz_dM A a P) args s 0 0 A) D ca zz_dM A 7 11 a [] [(0, .ref (a 0)), (1, .ref (a k1)), (2, .int x2), (3, .int x3), (4, .int y4)] I8 L8) (hK61 : ∀ (y6 : Int32) (I8 : zz_I) (L8 : zz_L), K61 y6 I8 L8 → zz_Go p l e ({ frames := 4, cells := 0, slots := 0, locals := 100 } : Room) s m args below meth c 0 0 (MQ below (zz_Qv D ca zz_dM A a P) args s 0 0 A) D ca zz_dM A 7 61 a [] [(0, .ref (a 0)), (1, .ref (a k1)), (2, .int x2), (3, .int x3), (4, .int x4), (5, .int x5), (6, .int y6)] I8 L8) (h : zp_X8_layHeavy_105 K4 K11 K61 P k1 x2 x3 x4 x5 x6 I L) : zz_Go p l e ({ frames := 4, cells := 0, slots := 0, locals := 100 } : Room) s m args below meth c 0 0 (MQ below (zz_Qv D ca zz_dM A a P) args s 0 0 A) D ca zz_dM A 7 105 a [] [(0, .ref (a 0)), (1, .ref (a k1)), (2, .int x2), (3, .int x3), (4, .int x4), (5, .int x5), (6, .int x6)] I L := by
  obtain ⟨hx, hb, hml, hown, zw, hr, hlocks⟩ := id X
  intro H locs ls hB hl
  unfold zp_X8_layHeavy_105 at h
  refine lv_aload_n hx hb dX8_layHeavy_105 rfl (lv_at hl 0 rfl) ?_
  refine lv_aload_n hx hb dX8_layHeavy_106 rfl (lv_at hl 1 rfl) ?_
  refine lv_iload hx hb dX8_layHeavy_107 (lv_at hl 5 rfl) ?_
  refine lv_iload hx hb dX8_layHeavy_109 (lv_at hl 6 rfl) ?_
  refine lv_iload_n hx hb dX8_layHeavy_111 rfl (lv_at hl 3 rfl) ?_
  refine zz_gov hB hA (zz_runV (As := [.ref (a k1), .int x5, .int x6, .int x3]) (rest := []) hx hb hml hown zw hB zM_X8_209 (zc_X8_addHeavy l D ca a I L H.size hk1 h) zdM_0 rfl rfl hl.1 rfl (Nat.le_of_ble_eq_true rfl) rfl rfl ⟨Nat.le_of_ble_eq_true rfl, Nat.le_of_ble_eq_true rfl⟩ dX8_layHeavy_112 ⟨Nat.le_of_ble_eq_true rfl, Nat.le_of_ble_eq_true rfl⟩) (fun I112 L112 H locs h hB => ?_)
  obtain ⟨v115, ev115⟩ : ∃ z : Int32, z = x6 + (1 : Int32) := ⟨_, rfl⟩
  have h := h v115 ev115
  refine lv_iinc (v := v115) (lv' := [(6, .int v115), (0, .ref (a 0)), (1, .ref (a k1)), (2, .int x2), (3, .int x3), (4, .int x4), (5, .int x5)]) hx hb dX8_layHeavy_115 hl (k := 6) rfl (by rw [ev115]; rfl) (by decide) rfl (fun ls hl => ?_)
  refine lv_goto (tgt := 61) hx hb dX8_layHeavy_118 (by decide) ?_
  exact hK61 _ _ _ h H locs ls hB (lv_sub hl [1, 2, 3, 4, 5, 6, 0] rfl)
def zp_X8_layHeavy_61b (K4 : Int32 → zz_I → zz_L → Prop) (K11 : Int32 → zz_I → zz_L → Prop) (K61 : Int32 → zz_I → zz_L → Prop) (P : zz_I → zz_L → Prop) (k1 : Nat) (x2 : Int32) (x3 : Int32) (x4 : Int32) (x5 : Int32) (x6 : Int32) (I : zz_I) (L : zz_L) : Prop := ((I 0 5) ≤ x6 → ∀ v121 : Int32, v121 = x4 + (1 : Int32) → (K11 v121 I L)) ∧ (¬ (I 0 5) ≤ x6 → vp_in (0 : Int32) 43 ∧ (((I k1 (0 : Int32).toNatClampNeg) ≤ x3 → ∀ v121 : Int32, v121 = x4 + (1 : Int32) → (K11 v121 I L)) ∧ (¬ (I k1 (0 : Int32).toNatClampNeg) ≤ x3 → zp_X8_fits k1 x6 x3 x4 (fun r84 => (r84 = 0 → ∀ v115 : Int32, v115 = x6 + (1 : Int32) → (K61 v115 I L)) ∧ (¬ r84 = 0 → (x2 = 0 → zp_X8_layHeavy_105 K4 K11 K61 P k1 x2 x3 x4 x5 x6 I L) ∧ (¬ x2 = 0 → zp_X8_agrees k1 x6 x3 (fun r99 => (r99 = 0 → ∀ v115 : Int32, v115 = x6 + (1 : Int32) → (K61 v115 I L)) ∧ (¬ r99 = 0 → zp_X8_layHeavy_105 K4 K11 K61 P k1 x2 x3 x4 x5 x6 I L)) I L))) I L)))
set_option maxHeartbeats 4000000 in
set_option maxRecDepth 100000 in
theorem zq_X8_layHeavy_61b {p : Program} {l : Launch} {e : Env} {s : State} {m : MethodId} {args : Array Value} {below : List Frame} {meth : Method} {c : Code} {D : va_G} {ca : Nat → ClassId} {A : Nat → Prop} {a : Nat → Nat} {K4 : Int32 → zz_I → zz_L → Prop} {K11 : Int32 → zz_I → zz_L → Prop} {K61 : Int32 → zz_I → zz_L → Prop} {P : zz_I → zz_L → Prop} {I : zz_I} {L : zz_L} {k1 : Nat} {x2 : Int32} {x3 : Int32} {x4 : Int32} {x5 : Int32} {x6 : Int32} (X : zz_X p s m meth c cX8_layHeavy RX8 none 7) (hA : ∀ q, s.heap.size ≤ q → A q) (hk1 : zz_dM[k1]? = some (.inl (0, 43))) (hK4 : ∀ (y3 : Int32) (I8 : zz_I) (L8 : zz_L), K4 y3 I8 L8 → zz_Go p l e ({ frames := 4, cells := 0, slots := 0, locals := 100 } : Room) s m args below meth c 0 0 (MQ below (zz_Qv D ca zz_dM A a P) args s 0 0 A) D ca zz_dM A 7 4 a [] [(0, .ref (a 0)), (1, .ref (a k1)), (2, .int x2), (3, .int y3)] I8 L8) (hK11 : ∀ (y4 : Int32) (I8 : zz_I) (L8 : zz_L), K11 y4 I8 L8 → zz_Go p l e ({ frames := 4, cells := 0, slots := 0, locals := 100 } : Room) s m args below meth c 0 0 (MQ below (zz_Qv D ca zz_dM A a P) args s 0 0 A) D ca zz_dM A 7 11 a [] [(0, .ref (a 0)), (1, .ref (a k1)), (2, .int x2), (3, .int x3), (4, .int y4)] I8 L8) (hK61 : ∀ (y6 : Int32) (I8 : zz_I) (L8 : zz_L), K61 y6 I8 L8 → zz_Go p l e ({ frames := 4, cells := 0, slots := 0, locals := 100 } : Room) s m args below meth c 0 0 (MQ below (zz_Qv D ca zz_dM A a P) args s 0 0 A) D ca zz_dM A 7 61 a [] [(0, .ref (a 0)), (1, .ref (a k1)), (2, .int x2), (3, .int x3), (4, .int x4), (5, .int x5), (6, .int y6)] I8 L8) (h : zp_X8_layHeavy_61b K4 K11 K61 P k1 x2 x3 x4 x5 x6 I L) : zz_Go p l e ({ frames := 4, cells := 0, slots := 0, locals := 100 } : Room) s m args below meth c 0 0 (MQ below (zz_Qv D ca zz_dM A a P) args s 0 0 A) D ca zz_dM A 7 61 a [] [(0, .ref (a 0)), (1, .ref (a k1)), (2, .int x2), (3, .int x3), (4, .int x4), (5, .int x5), (6, .int x6)] I L := by
  obtain ⟨hx, hb, hml, hown, zw, hr, hlocks⟩ := id X
  intro H locs ls hB hl
  unfold zp_X8_layHeavy_61b at h
  refine lv_iload hx hb dX8_layHeavy_61 (lv_at hl 6 rfl) ?_
  refine lv_aload_n hx hb dX8_layHeavy_63 rfl (lv_at hl 0 rfl) ?_
  refine zz_geti hx hb hown zw hB zF_X8_98 zdM_0 rfl dX8_layHeavy_64 ?_
  refine lv_icmp_ge (tgt := 121) hx hb dX8_layHeavy_67 (by decide) (fun c67 => ?_) (fun c67 => ?_)
  · have h := h.1 c67
    obtain ⟨v121, ev121⟩ : ∃ z : Int32, z = x4 + (1 : Int32) := ⟨_, rfl⟩
    have h := h v121 ev121
    refine lv_iinc (v := v121) (lv' := [(4, .int v121), (0, .ref (a 0)), (1, .ref (a k1)), (2, .int x2), (3, .int x3), (5, .int x5), (6, .int x6)]) hx hb dX8_layHeavy_121 hl (k := 4) rfl (by rw [ev121]; rfl) (by decide) rfl (fun ls hl => ?_)
    refine lv_goto (tgt := 11) hx hb dX8_layHeavy_124 (by decide) ?_
    exact hK11 _ _ _ h H locs ls hB (lv_sub hl [1, 2, 3, 4, 0] rfl)
  · have h := h.2 c67
    refine lv_iload_n hx hb dX8_layHeavy_70 rfl (lv_at hl 3 rfl) ?_
    refine lv_aload_n hx hb dX8_layHeavy_71 rfl (lv_at hl 1 rfl) ?_
    refine lv_iconst (v := (0 : Int32)) hx hb dX8_layHeavy_72 (by decide) ?_
    obtain ⟨hi73, h⟩ := h
    refine zz_iald hx hb hB hk1 hi73 dX8_layHeavy_73 ?_
    refine lv_icmp_ge (tgt := 121) hx hb dX8_layHeavy_74 (by decide) (fun c74 => ?_) (fun c74 => ?_)
    · have h := h.1 c74
      obtain ⟨v121, ev121⟩ : ∃ z : Int32, z = x4 + (1 : Int32) := ⟨_, rfl⟩
      have h := h v121 ev121
      refine lv_iinc (v := v121) (lv' := [(4, .int v121), (0, .ref (a 0)), (1, .ref (a k1)), (2, .int x2), (3, .int x3), (5, .int x5), (6, .int x6)]) hx hb dX8_layHeavy_121 hl (k := 4) rfl (by rw [ev121]; rfl) (by decide) rfl (fun ls hl => ?_)
      refine lv_goto (tgt := 11) hx hb dX8_layHeavy_124 (by decide) ?_
      exact hK11 _ _ _ h H locs ls hB (lv_sub hl [1, 2, 3, 4, 0] rfl)
    · have h := h.2 c74
      refine lv_aload_n hx hb dX8_layHeavy_77 rfl (lv_at hl 0 rfl) ?_
      refine lv_aload_n hx hb dX8_layHeavy_78 rfl (lv_at hl 1 rfl) ?_
      refine lv_iload hx hb dX8_layHeavy_79 (lv_at hl 6 rfl) ?_
      refine lv_iload_n hx hb dX8_layHeavy_81 rfl (lv_at hl 3 rfl) ?_
      refine lv_iload hx hb dX8_layHeavy_82 (lv_at hl 4 rfl) ?_
      refine zz_goip hB hA (zz_runV (As := [.ref (a k1), .int x6, .int x3, .int x4]) (rest := []) hx hb hml hown zw hB zM_X8_199 (zc_X8_fits l D ca a I L H.size hk1 h) zdM_0 rfl rfl hl.1 rfl (Nat.le_of_ble_eq_true rfl) rfl rfl ⟨Nat.le_of_ble_eq_true rfl, Nat.le_of_ble_eq_true rfl⟩ dX8_layHeavy_84 ⟨Nat.le_of_ble_eq_true rfl, Nat.le_of_ble_eq_true rfl⟩) (fun r84 H locs h hB => ?_)
      refine lv_if_eq (tgt := 115) hx hb dX8_layHeavy_87 (by decide) (fun c87 => ?_) (fun c87 => ?_)
      · have h := h.1 c87
        obtain ⟨v115, ev115⟩ : ∃ z : Int32, z = x6 + (1 : Int32) := ⟨_, rfl⟩
        have h := h v115 ev115
        refine lv_iinc (v := v115) (lv' := [(6, .int v115), (0, .ref (a 0)), (1, .ref (a k1)), (2, .int x2), (3, .int x3), (4, .int x4), (5, .int x5)]) hx hb dX8_layHeavy_115 hl (k := 6) rfl (by rw [ev115]; rfl) (by decide) rfl (fun ls hl => ?_)
        refine lv_goto (tgt := 61) hx hb dX8_layHeavy_118 (by decide) ?_
        exact hK61 _ _ _ h H locs ls hB (lv_sub hl [1, 2, 3, 4, 5, 6, 0] rfl)
      · have h := h.2 c87
        refine lv_iload_n hx hb dX8_layHeavy_90 rfl (lv_at hl 2 rfl) ?_
        refine lv_if_eq (tgt := 105) hx hb dX8_layHeavy_91 (by decide) (fun c91 => ?_) (fun c91 => ?_)
        · have h := h.1 c91
          exact zq_X8_layHeavy_105 X hA hk1 hK4 hK11 hK61 h H locs ls hB (lv_sub hl [0, 1, 2, 3, 4, 5, 6] rfl)
        · have h := h.2 c91
          refine lv_aload_n hx hb dX8_layHeavy_94 rfl (lv_at hl 0 rfl) ?_
          refine lv_aload_n hx hb dX8_layHeavy_95 rfl (lv_at hl 1 rfl) ?_
          refine lv_iload hx hb dX8_layHeavy_96 (lv_at hl 6 rfl) ?_
          refine lv_iload_n hx hb dX8_layHeavy_98 rfl (lv_at hl 3 rfl) ?_
          refine zz_goip hB hA (zz_runV (As := [.ref (a k1), .int x6, .int x3]) (rest := []) hx hb hml hown zw hB zM_X8_206 (zc_X8_agrees l D ca a I L H.size hk1 h) zdM_0 rfl rfl hl.1 rfl (Nat.le_of_ble_eq_true rfl) rfl rfl ⟨Nat.le_of_ble_eq_true rfl, Nat.le_of_ble_eq_true rfl⟩ dX8_layHeavy_99 ⟨Nat.le_of_ble_eq_true rfl, Nat.le_of_ble_eq_true rfl⟩) (fun r99 H locs h hB => ?_)
          refine lv_if_eq (tgt := 115) hx hb dX8_layHeavy_102 (by decide) (fun c102 => ?_) (fun c102 => ?_)
          · have h := h.1 c102
            obtain ⟨v115, ev115⟩ : ∃ z : Int32, z = x6 + (1 : Int32) := ⟨_, rfl⟩
            have h := h v115 ev115
            refine lv_iinc (v := v115) (lv' := [(6, .int v115), (0, .ref (a 0)), (1, .ref (a k1)), (2, .int x2), (3, .int x3), (4, .int x4), (5, .int x5)]) hx hb dX8_layHeavy_115 hl (k := 6) rfl (by rw [ev115]; rfl) (by decide) rfl (fun ls hl => ?_)
            refine lv_goto (tgt := 61) hx hb dX8_layHeavy_118 (by decide) ?_
            exact hK61 _ _ _ h H locs ls hB (lv_sub hl [1, 2, 3, 4, 5, 6, 0] rfl)
          · have h := h.2 c102
            exact zq_X8_layHeavy_105 X hA hk1 hK4 hK11 hK61 h H locs ls hB (lv_sub hl [0, 1, 2, 3, 4, 5, 6] rfl)
def zp_X8_layHeavy_61 (K4 : Int32 → zz_I → zz_L → Prop) (K11 : Int32 → zz_I → zz_L → Prop) (P : zz_I → zz_L → Prop) (k1 : Nat) (x2 : Int32) (x3 : Int32) (x4 : Int32) (x5 : Int32) (x6 : Int32) (I : zz_I) (L : zz_L) : Prop := ∃ (Inv : Int32 → zz_I → zz_L → Prop) (μ : Int32 → zz_I → zz_L → Nat), Inv x6 I L ∧ ∀ (y6 : Int32) (I8 : zz_I) (L8 : zz_L), Inv y6 I8 L8 → zp_X8_layHeavy_61b K4 K11 (fun z6 I7 L7 => Inv z6 I7 L7 ∧ μ z6 I7 L7 < μ y6 I8 L8) P k1 x2 x3 x4 x5 y6 I8 L8
set_option maxHeartbeats 4000000 in
set_option maxRecDepth 100000 in
theorem zq_X8_layHeavy_61 {p : Program} {l : Launch} {e : Env} {s : State} {m : MethodId} {args : Array Value} {below : List Frame} {meth : Method} {c : Code} {D : va_G} {ca : Nat → ClassId} {A : Nat → Prop} {a : Nat → Nat} {K4 : Int32 → zz_I → zz_L → Prop} {K11 : Int32 → zz_I → zz_L → Prop} {P : zz_I → zz_L → Prop} {I : zz_I} {L : zz_L} {k1 : Nat} {x2 : Int32} {x3 : Int32} {x4 : Int32} {x5 : Int32} {x6 : Int32} (X : zz_X p s m meth c cX8_layHeavy RX8 none 7) (hA : ∀ q, s.heap.size ≤ q → A q) (hk1 : zz_dM[k1]? = some (.inl (0, 43))) (hK4 : ∀ (y3 : Int32) (I8 : zz_I) (L8 : zz_L), K4 y3 I8 L8 → zz_Go p l e ({ frames := 4, cells := 0, slots := 0, locals := 100 } : Room) s m args below meth c 0 0 (MQ below (zz_Qv D ca zz_dM A a P) args s 0 0 A) D ca zz_dM A 7 4 a [] [(0, .ref (a 0)), (1, .ref (a k1)), (2, .int x2), (3, .int y3)] I8 L8) (hK11 : ∀ (y4 : Int32) (I8 : zz_I) (L8 : zz_L), K11 y4 I8 L8 → zz_Go p l e ({ frames := 4, cells := 0, slots := 0, locals := 100 } : Room) s m args below meth c 0 0 (MQ below (zz_Qv D ca zz_dM A a P) args s 0 0 A) D ca zz_dM A 7 11 a [] [(0, .ref (a 0)), (1, .ref (a k1)), (2, .int x2), (3, .int x3), (4, .int y4)] I8 L8) (h : zp_X8_layHeavy_61 K4 K11 P k1 x2 x3 x4 x5 x6 I L) : zz_Go p l e ({ frames := 4, cells := 0, slots := 0, locals := 100 } : Room) s m args below meth c 0 0 (MQ below (zz_Qv D ca zz_dM A a P) args s 0 0 A) D ca zz_dM A 7 61 a [] [(0, .ref (a 0)), (1, .ref (a k1)), (2, .int x2), (3, .int x3), (4, .int x4), (5, .int x5), (6, .int x6)] I L := by
  unfold zp_X8_layHeavy_61 at h
  obtain ⟨Inv, μ, hv0, hs⟩ := h
  have key : ∀ (n9 : Nat) (y6 : Int32) (I8 : zz_I) (L8 : zz_L), μ y6 I8 L8 < n9 → Inv y6 I8 L8 → zz_Go p l e ({ frames := 4, cells := 0, slots := 0, locals := 100 } : Room) s m args below meth c 0 0 (MQ below (zz_Qv D ca zz_dM A a P) args s 0 0 A) D ca zz_dM A 7 61 a [] [(0, .ref (a 0)), (1, .ref (a k1)), (2, .int x2), (3, .int x3), (4, .int x4), (5, .int x5), (6, .int y6)] I8 L8 := by
    intro n9
    induction n9 with
    | zero => intro y6 I8 L8 hn; exact absurd hn (Nat.not_lt_zero _)
    | succ n9 ih =>
      intro y6 I8 L8 hn hi
      exact zq_X8_layHeavy_61b (K61 := (fun z6 I7 L7 => Inv z6 I7 L7 ∧ μ z6 I7 L7 < μ y6 I8 L8)) X hA hk1 hK4 hK11 (fun z6 I7 L7 hz => ih z6 I7 L7 (Nat.lt_of_lt_of_le hz.2 (Nat.le_of_lt_succ hn)) hz.1) (hs y6 I8 L8 hi)
  exact key _ x6 I L (Nat.lt_succ_self _) hv0
def zp_X8_layHeavy_34b (K4 : Int32 → zz_I → zz_L → Prop) (K11 : Int32 → zz_I → zz_L → Prop) (K34 : Int32 → zz_I → zz_L → Prop) (P : zz_I → zz_L → Prop) (k1 : Nat) (x2 : Int32) (x3 : Int32) (x4 : Int32) (x5 : Int32) (x6 : Int32) (I : zz_I) (L : zz_L) : Prop := ((73 : Int32) ≤ x6 → zp_X8_layHeavy_61 K4 K11 P k1 x2 x3 x4 x5 (0 : Int32) I L) ∧ (¬ (73 : Int32) ≤ x6 → vp_in (x5 + x6) 16425 ∧ (∀ L51 : zz_L, L51 = zz_up L 22 (x5 + x6).toNatClampNeg (0 : Int64) → (∀ v52 : Int32, v52 = x6 + (1 : Int32) → (K34 v52 I L51))))
set_option maxHeartbeats 4000000 in
set_option maxRecDepth 100000 in
theorem zq_X8_layHeavy_34b {p : Program} {l : Launch} {e : Env} {s : State} {m : MethodId} {args : Array Value} {below : List Frame} {meth : Method} {c : Code} {D : va_G} {ca : Nat → ClassId} {A : Nat → Prop} {a : Nat → Nat} {K4 : Int32 → zz_I → zz_L → Prop} {K11 : Int32 → zz_I → zz_L → Prop} {K34 : Int32 → zz_I → zz_L → Prop} {P : zz_I → zz_L → Prop} {I : zz_I} {L : zz_L} {k1 : Nat} {x2 : Int32} {x3 : Int32} {x4 : Int32} {x5 : Int32} {x6 : Int32} (X : zz_X p s m meth c cX8_layHeavy RX8 none 7) (hA : ∀ q, s.heap.size ≤ q → A q) (hk1 : zz_dM[k1]? = some (.inl (0, 43))) (hK4 : ∀ (y3 : Int32) (I8 : zz_I) (L8 : zz_L), K4 y3 I8 L8 → zz_Go p l e ({ frames := 4, cells := 0, slots := 0, locals := 100 } : Room) s m args below meth c 0 0 (MQ below (zz_Qv D ca zz_dM A a P) args s 0 0 A) D ca zz_dM A 7 4 a [] [(0, .ref (a 0)), (1, .ref (a k1)), (2, .int x2), (3, .int y3)] I8 L8) (hK11 : ∀ (y4 : Int32) (I8 : zz_I) (L8 : zz_L), K11 y4 I8 L8 → zz_Go p l e ({ frames := 4, cells := 0, slots := 0, locals := 100 } : Room) s m args below meth c 0 0 (MQ below (zz_Qv D ca zz_dM A a P) args s 0 0 A) D ca zz_dM A 7 11 a [] [(0, .ref (a 0)), (1, .ref (a k1)), (2, .int x2), (3, .int x3), (4, .int y4)] I8 L8) (hK34 : ∀ (y6 : Int32) (I8 : zz_I) (L8 : zz_L), K34 y6 I8 L8 → zz_Go p l e ({ frames := 4, cells := 0, slots := 0, locals := 100 } : Room) s m args below meth c 0 0 (MQ below (zz_Qv D ca zz_dM A a P) args s 0 0 A) D ca zz_dM A 7 34 a [] [(0, .ref (a 0)), (1, .ref (a k1)), (2, .int x2), (3, .int x3), (4, .int x4), (5, .int x5), (6, .int y6)] I8 L8) (h : zp_X8_layHeavy_34b K4 K11 K34 P k1 x2 x3 x4 x5 x6 I L) : zz_Go p l e ({ frames := 4, cells := 0, slots := 0, locals := 100 } : Room) s m args below meth c 0 0 (MQ below (zz_Qv D ca zz_dM A a P) args s 0 0 A) D ca zz_dM A 7 34 a [] [(0, .ref (a 0)), (1, .ref (a k1)), (2, .int x2), (3, .int x3), (4, .int x4), (5, .int x5), (6, .int x6)] I L := by
  obtain ⟨hx, hb, hml, hown, zw, hr, hlocks⟩ := id X
  intro H locs ls hB hl
  unfold zp_X8_layHeavy_34b at h
  refine lv_iload hx hb dX8_layHeavy_34 (lv_at hl 6 rfl) ?_
  refine lv_bipush (v := (73 : Int32)) hx hb dX8_layHeavy_36 (by decide) ?_
  refine lv_icmp_ge (tgt := 58) hx hb dX8_layHeavy_38 (by decide) (fun c38 => ?_) (fun c38 => ?_)
  · have h := h.1 c38
    refine lv_iconst (v := (0 : Int32)) hx hb dX8_layHeavy_58 (by decide) ?_
    refine lv_istore (lv' := [(6, .int (0 : Int32)), (0, .ref (a 0)), (1, .ref (a k1)), (2, .int x2), (3, .int x3), (4, .int x4), (5, .int x5)]) hx hb dX8_layHeavy_59 hl (by decide) rfl (fun ls hl => ?_)
    exact zq_X8_layHeavy_61 X hA hk1 hK4 hK11 h H locs ls hB (lv_sub hl [1, 2, 3, 4, 5, 6, 0] rfl)
  · have h := h.2 c38
    refine lv_aload_n hx hb dX8_layHeavy_41 rfl (lv_at hl 0 rfl) ?_
    refine zz_getr (k' := 22) hx hb hown zw hB zF_X8_74 zdM_0 rfl rfl dX8_layHeavy_42 ?_
    refine lv_iload hx hb dX8_layHeavy_45 (lv_at hl 5 rfl) ?_
    refine lv_iload hx hb dX8_layHeavy_47 (lv_at hl 6 rfl) ?_
    refine lv_iadd hx hb dX8_layHeavy_49 ?_
    refine lv_lconst (v := (0 : Int64)) hx hb dX8_layHeavy_50 (by decide) ?_
    obtain ⟨hi51, h⟩ := h
    refine zz_last hx hb hB zdM_22 hi51 dX8_layHeavy_51 (fun H locs hB => ?_)
    obtain ⟨L51, eL51⟩ : ∃ z : zz_L, z = zz_up L 22 (x5 + x6).toNatClampNeg (0 : Int64) := ⟨_, rfl⟩
    rw [← eL51] at hB
    have h := h L51 eL51
    obtain ⟨v52, ev52⟩ : ∃ z : Int32, z = x6 + (1 : Int32) := ⟨_, rfl⟩
    have h := h v52 ev52
    refine lv_iinc (v := v52) (lv' := [(6, .int v52), (0, .ref (a 0)), (1, .ref (a k1)), (2, .int x2), (3, .int x3), (4, .int x4), (5, .int x5)]) hx hb dX8_layHeavy_52 hl (k := 6) rfl (by rw [ev52]; rfl) (by decide) rfl (fun ls hl => ?_)
    refine lv_goto (tgt := 34) hx hb dX8_layHeavy_55 (by decide) ?_
    exact hK34 _ _ _ h H locs ls hB (lv_sub hl [1, 2, 3, 4, 5, 6, 0] rfl)
def zp_X8_layHeavy_34 (K4 : Int32 → zz_I → zz_L → Prop) (K11 : Int32 → zz_I → zz_L → Prop) (P : zz_I → zz_L → Prop) (k1 : Nat) (x2 : Int32) (x3 : Int32) (x4 : Int32) (x5 : Int32) (x6 : Int32) (I : zz_I) (L : zz_L) : Prop := ∃ (Inv : Int32 → zz_I → zz_L → Prop) (μ : Int32 → zz_I → zz_L → Nat), Inv x6 I L ∧ ∀ (y6 : Int32) (I8 : zz_I) (L8 : zz_L), Inv y6 I8 L8 → zp_X8_layHeavy_34b K4 K11 (fun z6 I7 L7 => Inv z6 I7 L7 ∧ μ z6 I7 L7 < μ y6 I8 L8) P k1 x2 x3 x4 x5 y6 I8 L8
set_option maxHeartbeats 4000000 in
set_option maxRecDepth 100000 in
theorem zq_X8_layHeavy_34 {p : Program} {l : Launch} {e : Env} {s : State} {m : MethodId} {args : Array Value} {below : List Frame} {meth : Method} {c : Code} {D : va_G} {ca : Nat → ClassId} {A : Nat → Prop} {a : Nat → Nat} {K4 : Int32 → zz_I → zz_L → Prop} {K11 : Int32 → zz_I → zz_L → Prop} {P : zz_I → zz_L → Prop} {I : zz_I} {L : zz_L} {k1 : Nat} {x2 : Int32} {x3 : Int32} {x4 : Int32} {x5 : Int32} {x6 : Int32} (X : zz_X p s m meth c cX8_layHeavy RX8 none 7) (hA : ∀ q, s.heap.size ≤ q → A q) (hk1 : zz_dM[k1]? = some (.inl (0, 43))) (hK4 : ∀ (y3 : Int32) (I8 : zz_I) (L8 : zz_L), K4 y3 I8 L8 → zz_Go p l e ({ frames := 4, cells := 0, slots := 0, locals := 100 } : Room) s m args below meth c 0 0 (MQ below (zz_Qv D ca zz_dM A a P) args s 0 0 A) D ca zz_dM A 7 4 a [] [(0, .ref (a 0)), (1, .ref (a k1)), (2, .int x2), (3, .int y3)] I8 L8) (hK11 : ∀ (y4 : Int32) (I8 : zz_I) (L8 : zz_L), K11 y4 I8 L8 → zz_Go p l e ({ frames := 4, cells := 0, slots := 0, locals := 100 } : Room) s m args below meth c 0 0 (MQ below (zz_Qv D ca zz_dM A a P) args s 0 0 A) D ca zz_dM A 7 11 a [] [(0, .ref (a 0)), (1, .ref (a k1)), (2, .int x2), (3, .int x3), (4, .int y4)] I8 L8) (h : zp_X8_layHeavy_34 K4 K11 P k1 x2 x3 x4 x5 x6 I L) : zz_Go p l e ({ frames := 4, cells := 0, slots := 0, locals := 100 } : Room) s m args below meth c 0 0 (MQ below (zz_Qv D ca zz_dM A a P) args s 0 0 A) D ca zz_dM A 7 34 a [] [(0, .ref (a 0)), (1, .ref (a k1)), (2, .int x2), (3, .int x3), (4, .int x4), (5, .int x5), (6, .int x6)] I L := by
  unfold zp_X8_layHeavy_34 at h
  obtain ⟨Inv, μ, hv0, hs⟩ := h
  have key : ∀ (n9 : Nat) (y6 : Int32) (I8 : zz_I) (L8 : zz_L), μ y6 I8 L8 < n9 → Inv y6 I8 L8 → zz_Go p l e ({ frames := 4, cells := 0, slots := 0, locals := 100 } : Room) s m args below meth c 0 0 (MQ below (zz_Qv D ca zz_dM A a P) args s 0 0 A) D ca zz_dM A 7 34 a [] [(0, .ref (a 0)), (1, .ref (a k1)), (2, .int x2), (3, .int x3), (4, .int x4), (5, .int x5), (6, .int y6)] I8 L8 := by
    intro n9
    induction n9 with
    | zero => intro y6 I8 L8 hn; exact absurd hn (Nat.not_lt_zero _)
    | succ n9 ih =>
      intro y6 I8 L8 hn hi
      exact zq_X8_layHeavy_34b (K34 := (fun z6 I7 L7 => Inv z6 I7 L7 ∧ μ z6 I7 L7 < μ y6 I8 L8)) X hA hk1 hK4 hK11 (fun z6 I7 L7 hz => ih z6 I7 L7 (Nat.lt_of_lt_of_le hz.2 (Nat.le_of_lt_succ hn)) hz.1) (hs y6 I8 L8 hi)
  exact key _ x6 I L (Nat.lt_succ_self _) hv0
def zp_X8_layHeavy_11b (K4 : Int32 → zz_I → zz_L → Prop) (K11 : Int32 → zz_I → zz_L → Prop) (P : zz_I → zz_L → Prop) (k1 : Nat) (x2 : Int32) (x3 : Int32) (x4 : Int32) (I : zz_I) (L : zz_L) : Prop := ((8 : Int32) < x4 → ∀ v127 : Int32, v127 = x3 + (-1 : Int32) → (K4 v127 I L)) ∧ (¬ (8 : Int32) < x4 → ∀ v29 : Int32, v29 = ((657 : Int32) * x3) + ((73 : Int32) * x4) → (zp_X8_layHeavy_34 K4 K11 P k1 x2 x3 x4 v29 (0 : Int32) I L))
set_option maxHeartbeats 4000000 in
set_option maxRecDepth 100000 in
theorem zq_X8_layHeavy_11b {p : Program} {l : Launch} {e : Env} {s : State} {m : MethodId} {args : Array Value} {below : List Frame} {meth : Method} {c : Code} {D : va_G} {ca : Nat → ClassId} {A : Nat → Prop} {a : Nat → Nat} {K4 : Int32 → zz_I → zz_L → Prop} {K11 : Int32 → zz_I → zz_L → Prop} {P : zz_I → zz_L → Prop} {I : zz_I} {L : zz_L} {k1 : Nat} {x2 : Int32} {x3 : Int32} {x4 : Int32} (X : zz_X p s m meth c cX8_layHeavy RX8 none 7) (hA : ∀ q, s.heap.size ≤ q → A q) (hk1 : zz_dM[k1]? = some (.inl (0, 43))) (hK4 : ∀ (y3 : Int32) (I8 : zz_I) (L8 : zz_L), K4 y3 I8 L8 → zz_Go p l e ({ frames := 4, cells := 0, slots := 0, locals := 100 } : Room) s m args below meth c 0 0 (MQ below (zz_Qv D ca zz_dM A a P) args s 0 0 A) D ca zz_dM A 7 4 a [] [(0, .ref (a 0)), (1, .ref (a k1)), (2, .int x2), (3, .int y3)] I8 L8) (hK11 : ∀ (y4 : Int32) (I8 : zz_I) (L8 : zz_L), K11 y4 I8 L8 → zz_Go p l e ({ frames := 4, cells := 0, slots := 0, locals := 100 } : Room) s m args below meth c 0 0 (MQ below (zz_Qv D ca zz_dM A a P) args s 0 0 A) D ca zz_dM A 7 11 a [] [(0, .ref (a 0)), (1, .ref (a k1)), (2, .int x2), (3, .int x3), (4, .int y4)] I8 L8) (h : zp_X8_layHeavy_11b K4 K11 P k1 x2 x3 x4 I L) : zz_Go p l e ({ frames := 4, cells := 0, slots := 0, locals := 100 } : Room) s m args below meth c 0 0 (MQ below (zz_Qv D ca zz_dM A a P) args s 0 0 A) D ca zz_dM A 7 11 a [] [(0, .ref (a 0)), (1, .ref (a k1)), (2, .int x2), (3, .int x3), (4, .int x4)] I L := by
  obtain ⟨hx, hb, hml, hown, zw, hr, hlocks⟩ := id X
  intro H locs ls hB hl
  unfold zp_X8_layHeavy_11b at h
  refine lv_iload hx hb dX8_layHeavy_11 (lv_at hl 4 rfl) ?_
  refine lv_bipush (v := (8 : Int32)) hx hb dX8_layHeavy_13 (by decide) ?_
  refine lv_icmp_gt (tgt := 127) hx hb dX8_layHeavy_15 (by decide) (fun c15 => ?_) (fun c15 => ?_)
  · have h := h.1 c15
    obtain ⟨v127, ev127⟩ : ∃ z : Int32, z = x3 + (-1 : Int32) := ⟨_, rfl⟩
    have h := h v127 ev127
    refine lv_iinc (v := v127) (lv' := [(3, .int v127), (0, .ref (a 0)), (1, .ref (a k1)), (2, .int x2), (4, .int x4)]) hx hb dX8_layHeavy_127 hl (k := 3) rfl (by rw [ev127]; rfl) (by decide) rfl (fun ls hl => ?_)
    refine lv_goto (tgt := 4) hx hb dX8_layHeavy_130 (by decide) ?_
    exact hK4 _ _ _ h H locs ls hB (lv_sub hl [1, 2, 3, 0] rfl)
  · have h := h.2 c15
    refine lv_sipush (v := (657 : Int32)) hx hb dX8_layHeavy_18 (by decide) ?_
    refine lv_iload_n hx hb dX8_layHeavy_21 rfl (lv_at hl 3 rfl) ?_
    refine lv_imul hx hb dX8_layHeavy_22 ?_
    refine lv_bipush (v := (73 : Int32)) hx hb dX8_layHeavy_23 (by decide) ?_
    refine lv_iload hx hb dX8_layHeavy_25 (lv_at hl 4 rfl) ?_
    refine lv_imul hx hb dX8_layHeavy_27 ?_
    refine lv_iadd hx hb dX8_layHeavy_28 ?_
    refine lv_topi (fun v29 ev29 => ?_)
    have h := h v29 ev29
    refine lv_istore (lv' := [(5, .int v29), (0, .ref (a 0)), (1, .ref (a k1)), (2, .int x2), (3, .int x3), (4, .int x4)]) hx hb dX8_layHeavy_29 hl (by decide) rfl (fun ls hl => ?_)
    refine lv_iconst (v := (0 : Int32)) hx hb dX8_layHeavy_31 (by decide) ?_
    refine lv_istore (lv' := [(6, .int (0 : Int32)), (5, .int v29), (0, .ref (a 0)), (1, .ref (a k1)), (2, .int x2), (3, .int x3), (4, .int x4)]) hx hb dX8_layHeavy_32 hl (by decide) rfl (fun ls hl => ?_)
    exact zq_X8_layHeavy_34 X hA hk1 hK4 hK11 h H locs ls hB (lv_sub hl [2, 3, 4, 5, 6, 1, 0] rfl)
def zp_X8_layHeavy_11 (K4 : Int32 → zz_I → zz_L → Prop) (P : zz_I → zz_L → Prop) (k1 : Nat) (x2 : Int32) (x3 : Int32) (x4 : Int32) (I : zz_I) (L : zz_L) : Prop := ∃ (Inv : Int32 → zz_I → zz_L → Prop) (μ : Int32 → zz_I → zz_L → Nat), Inv x4 I L ∧ ∀ (y4 : Int32) (I8 : zz_I) (L8 : zz_L), Inv y4 I8 L8 → zp_X8_layHeavy_11b K4 (fun z4 I7 L7 => Inv z4 I7 L7 ∧ μ z4 I7 L7 < μ y4 I8 L8) P k1 x2 x3 y4 I8 L8
set_option maxHeartbeats 4000000 in
set_option maxRecDepth 100000 in
theorem zq_X8_layHeavy_11 {p : Program} {l : Launch} {e : Env} {s : State} {m : MethodId} {args : Array Value} {below : List Frame} {meth : Method} {c : Code} {D : va_G} {ca : Nat → ClassId} {A : Nat → Prop} {a : Nat → Nat} {K4 : Int32 → zz_I → zz_L → Prop} {P : zz_I → zz_L → Prop} {I : zz_I} {L : zz_L} {k1 : Nat} {x2 : Int32} {x3 : Int32} {x4 : Int32} (X : zz_X p s m meth c cX8_layHeavy RX8 none 7) (hA : ∀ q, s.heap.size ≤ q → A q) (hk1 : zz_dM[k1]? = some (.inl (0, 43))) (hK4 : ∀ (y3 : Int32) (I8 : zz_I) (L8 : zz_L), K4 y3 I8 L8 → zz_Go p l e ({ frames := 4, cells := 0, slots := 0, locals := 100 } : Room) s m args below meth c 0 0 (MQ below (zz_Qv D ca zz_dM A a P) args s 0 0 A) D ca zz_dM A 7 4 a [] [(0, .ref (a 0)), (1, .ref (a k1)), (2, .int x2), (3, .int y3)] I8 L8) (h : zp_X8_layHeavy_11 K4 P k1 x2 x3 x4 I L) : zz_Go p l e ({ frames := 4, cells := 0, slots := 0, locals := 100 } : Room) s m args below meth c 0 0 (MQ below (zz_Qv D ca zz_dM A a P) args s 0 0 A) D ca zz_dM A 7 11 a [] [(0, .ref (a 0)), (1, .ref (a k1)), (2, .int x2), (3, .int x3), (4, .int x4)] I L := by
  unfold zp_X8_layHeavy_11 at h
  obtain ⟨Inv, μ, hv0, hs⟩ := h
  have key : ∀ (n9 : Nat) (y4 : Int32) (I8 : zz_I) (L8 : zz_L), μ y4 I8 L8 < n9 → Inv y4 I8 L8 → zz_Go p l e ({ frames := 4, cells := 0, slots := 0, locals := 100 } : Room) s m args below meth c 0 0 (MQ below (zz_Qv D ca zz_dM A a P) args s 0 0 A) D ca zz_dM A 7 11 a [] [(0, .ref (a 0)), (1, .ref (a k1)), (2, .int x2), (3, .int x3), (4, .int y4)] I8 L8 := by
    intro n9
    induction n9 with
    | zero => intro y4 I8 L8 hn; exact absurd hn (Nat.not_lt_zero _)
    | succ n9 ih =>
      intro y4 I8 L8 hn hi
      exact zq_X8_layHeavy_11b (K11 := (fun z4 I7 L7 => Inv z4 I7 L7 ∧ μ z4 I7 L7 < μ y4 I8 L8)) X hA hk1 hK4 (fun z4 I7 L7 hz => ih z4 I7 L7 (Nat.lt_of_lt_of_le hz.2 (Nat.le_of_lt_succ hn)) hz.1) (hs y4 I8 L8 hi)
  exact key _ x4 I L (Nat.lt_succ_self _) hv0
def zp_X8_layHeavy_4b (K4 : Int32 → zz_I → zz_L → Prop) (P : zz_I → zz_L → Prop) (k1 : Nat) (x2 : Int32) (x3 : Int32) (I : zz_I) (L : zz_L) : Prop := (x3 < 0 → P I L) ∧ (¬ x3 < 0 → zp_X8_layHeavy_11 K4 P k1 x2 x3 (0 : Int32) I L)
set_option maxHeartbeats 4000000 in
set_option maxRecDepth 100000 in
theorem zq_X8_layHeavy_4b {p : Program} {l : Launch} {e : Env} {s : State} {m : MethodId} {args : Array Value} {below : List Frame} {meth : Method} {c : Code} {D : va_G} {ca : Nat → ClassId} {A : Nat → Prop} {a : Nat → Nat} {K4 : Int32 → zz_I → zz_L → Prop} {P : zz_I → zz_L → Prop} {I : zz_I} {L : zz_L} {k1 : Nat} {x2 : Int32} {x3 : Int32} (X : zz_X p s m meth c cX8_layHeavy RX8 none 7) (hA : ∀ q, s.heap.size ≤ q → A q) (hk1 : zz_dM[k1]? = some (.inl (0, 43))) (hK4 : ∀ (y3 : Int32) (I8 : zz_I) (L8 : zz_L), K4 y3 I8 L8 → zz_Go p l e ({ frames := 4, cells := 0, slots := 0, locals := 100 } : Room) s m args below meth c 0 0 (MQ below (zz_Qv D ca zz_dM A a P) args s 0 0 A) D ca zz_dM A 7 4 a [] [(0, .ref (a 0)), (1, .ref (a k1)), (2, .int x2), (3, .int y3)] I8 L8) (h : zp_X8_layHeavy_4b K4 P k1 x2 x3 I L) : zz_Go p l e ({ frames := 4, cells := 0, slots := 0, locals := 100 } : Room) s m args below meth c 0 0 (MQ below (zz_Qv D ca zz_dM A a P) args s 0 0 A) D ca zz_dM A 7 4 a [] [(0, .ref (a 0)), (1, .ref (a k1)), (2, .int x2), (3, .int x3)] I L := by
  obtain ⟨hx, hb, hml, hown, zw, hr, hlocks⟩ := id X
  intro H locs ls hB hl
  unfold zp_X8_layHeavy_4b at h
  refine lv_iload_n hx hb dX8_layHeavy_4 rfl (lv_at hl 3 rfl) ?_
  refine lv_if_lt (tgt := 133) hx hb dX8_layHeavy_5 (by decide) (fun c5 => ?_) (fun c5 => ?_)
  · have h := h.1 c5
    exact zz_vret hx hb hr hlocks hB h dX8_layHeavy_133
  · have h := h.2 c5
    refine lv_iconst (v := (0 : Int32)) hx hb dX8_layHeavy_8 (by decide) ?_
    refine lv_istore (lv' := [(4, .int (0 : Int32)), (0, .ref (a 0)), (1, .ref (a k1)), (2, .int x2), (3, .int x3)]) hx hb dX8_layHeavy_9 hl (by decide) rfl (fun ls hl => ?_)
    exact zq_X8_layHeavy_11 X hA hk1 hK4 h H locs ls hB (lv_sub hl [1, 2, 3, 4, 0] rfl)
def zp_X8_layHeavy_4  (P : zz_I → zz_L → Prop) (k1 : Nat) (x2 : Int32) (x3 : Int32) (I : zz_I) (L : zz_L) : Prop := ∃ (Inv : Int32 → zz_I → zz_L → Prop) (μ : Int32 → zz_I → zz_L → Nat), Inv x3 I L ∧ ∀ (y3 : Int32) (I8 : zz_I) (L8 : zz_L), Inv y3 I8 L8 → zp_X8_layHeavy_4b  (fun z3 I7 L7 => Inv z3 I7 L7 ∧ μ z3 I7 L7 < μ y3 I8 L8) P k1 x2 y3 I8 L8
set_option maxHeartbeats 4000000 in
set_option maxRecDepth 100000 in
theorem zq_X8_layHeavy_4 {p : Program} {l : Launch} {e : Env} {s : State} {m : MethodId} {args : Array Value} {below : List Frame} {meth : Method} {c : Code} {D : va_G} {ca : Nat → ClassId} {A : Nat → Prop} {a : Nat → Nat}  {P : zz_I → zz_L → Prop} {I : zz_I} {L : zz_L} {k1 : Nat} {x2 : Int32} {x3 : Int32} (X : zz_X p s m meth c cX8_layHeavy RX8 none 7) (hA : ∀ q, s.heap.size ≤ q → A q) (hk1 : zz_dM[k1]? = some (.inl (0, 43)))  (h : zp_X8_layHeavy_4  P k1 x2 x3 I L) : zz_Go p l e ({ frames := 4, cells := 0, slots := 0, locals := 100 } : Room) s m args below meth c 0 0 (MQ below (zz_Qv D ca zz_dM A a P) args s 0 0 A) D ca zz_dM A 7 4 a [] [(0, .ref (a 0)), (1, .ref (a k1)), (2, .int x2), (3, .int x3)] I L := by
  unfold zp_X8_layHeavy_4 at h
  obtain ⟨Inv, μ, hv0, hs⟩ := h
  have key : ∀ (n9 : Nat) (y3 : Int32) (I8 : zz_I) (L8 : zz_L), μ y3 I8 L8 < n9 → Inv y3 I8 L8 → zz_Go p l e ({ frames := 4, cells := 0, slots := 0, locals := 100 } : Room) s m args below meth c 0 0 (MQ below (zz_Qv D ca zz_dM A a P) args s 0 0 A) D ca zz_dM A 7 4 a [] [(0, .ref (a 0)), (1, .ref (a k1)), (2, .int x2), (3, .int y3)] I8 L8 := by
    intro n9
    induction n9 with
    | zero => intro y3 I8 L8 hn; exact absurd hn (Nat.not_lt_zero _)
    | succ n9 ih =>
      intro y3 I8 L8 hn hi
      exact zq_X8_layHeavy_4b (K4 := (fun z3 I7 L7 => Inv z3 I7 L7 ∧ μ z3 I7 L7 < μ y3 I8 L8)) X hA hk1  (fun z3 I7 L7 hz => ih z3 I7 L7 (Nat.lt_of_lt_of_le hz.2 (Nat.le_of_lt_succ hn)) hz.1) (hs y3 I8 L8 hi)
  exact key _ x3 I L (Nat.lt_succ_self _) hv0
def zp_X8_layHeavy (k1 : Nat) (x2 : Int32) (P : zz_I → zz_L → Prop) (I : zz_I) (L : zz_L) : Prop := vp_in (0 : Int32) 43 ∧ (∀ v3 : Int32, v3 = I k1 (0 : Int32).toNatClampNeg → (zp_X8_layHeavy_4 P k1 x2 v3 I L))
set_option maxHeartbeats 4000000 in
set_option maxRecDepth 100000 in
theorem zq_X8_layHeavy {p : Program} {l : Launch} {e : Env} {s : State} {m : MethodId} {args : Array Value} {below : List Frame} {meth : Method} {c : Code} {D : va_G} {ca : Nat → ClassId} {A : Nat → Prop} {a : Nat → Nat}  {P : zz_I → zz_L → Prop} {I : zz_I} {L : zz_L} {k1 : Nat} {x2 : Int32} (X : zz_X p s m meth c cX8_layHeavy RX8 none 7) (hA : ∀ q, s.heap.size ≤ q → A q) (hk1 : zz_dM[k1]? = some (.inl (0, 43)))  (h : zp_X8_layHeavy k1 x2 P I L) : zz_Go p l e ({ frames := 4, cells := 0, slots := 0, locals := 100 } : Room) s m args below meth c 0 0 (MQ below (zz_Qv D ca zz_dM A a P) args s 0 0 A) D ca zz_dM A 7 0 a [] [(0, .ref (a 0)), (1, .ref (a k1)), (2, .int x2)] I L := by
  obtain ⟨hx, hb, hml, hown, zw, hr, hlocks⟩ := id X
  intro H locs ls hB hl
  unfold zp_X8_layHeavy at h
  refine lv_aload_n hx hb dX8_layHeavy_0 rfl (lv_at hl 1 rfl) ?_
  refine lv_iconst (v := (0 : Int32)) hx hb dX8_layHeavy_1 (by decide) ?_
  obtain ⟨hi2, h⟩ := h
  refine zz_iald hx hb hB hk1 hi2 dX8_layHeavy_2 ?_
  refine lv_topi (fun v3 ev3 => ?_)
  have h := h v3 ev3
  refine lv_istore_n (lv' := [(3, .int v3), (0, .ref (a 0)), (1, .ref (a k1)), (2, .int x2)]) hx hb dX8_layHeavy_3 rfl hl (by decide) rfl (fun ls hl => ?_)
  exact zq_X8_layHeavy_4 X hA hk1 h H locs ls hB (lv_sub hl [1, 2, 3, 0] rfl)
theorem zc_X8_layHeavy (l : Launch) (D : va_G) (ca : Nat → ClassId) (a : Nat → Nat) (I : zz_I) (L : zz_L) (sz : Nat) {k1 : Nat} {x2 : Int32} {P : zz_I → zz_L → Prop} (hk1 : zz_dM[k1]? = some (.inl (0, 43))) (h : zp_X8_layHeavy k1 x2 P I L) : Met l yX8_layHeavy [.code yX8_layHeavy cX8_layHeavy 7 none] ({ frames := 4, cells := 0, slots := 0, locals := 100 } : Room) (zz_Pre D ca zz_dM [.ref (a 0), .ref (a k1), .int x2] a I L sz) (zz_Qv D ca zz_dM (zz_A ca zz_dM a I L sz) a P) 0 0 (zz_A ca zz_dM a I L sz) :=
  zz_start (by decide) (Nat.le_of_ble_eq_true rfl) (fun p e s m below meth c X hsz hA => zq_X8_layHeavy X hA hk1 h)
def zp_X8_heavyBehind (k1 : Nat) (x2 : Int32) (x3 : Int32) (x4 : Int32) (P : Int64 → Prop) (I : zz_I) (L : zz_L) : Prop := zp_X8_unitsOf x2 (fun r3 => ∀ v7 : Int32, v7 = x3 + r3 → (vp_in ((11 : Int32) + x2) 43 ∧ (∀ v18 : Int32, v18 = x4 - (I k1 ((11 : Int32) + x2).toNatClampNeg) → ((0 ≤ v18 → vp_in (0 : Int32) 43 ∧ ((¬ v7 = (I k1 (0 : Int32).toNatClampNeg) → vp_in ((((657 : Int32) * (v7 + (1 : Int32))) + ((73 : Int32) * x2)) + v18) 16425 ∧ (P (L 22 ((((657 : Int32) * (v7 + (1 : Int32))) + ((73 : Int32) * x2)) + v18).toNatClampNeg))) ∧ (v7 = (I k1 (0 : Int32).toNatClampNeg) → (¬ v18 = 0 → P (0 : Int64)) ∧ (v18 = 0 → P (1 : Int64))))) ∧ (¬ 0 ≤ v18 → P (0 : Int64)))))) I L
set_option maxHeartbeats 4000000 in
set_option maxRecDepth 100000 in
theorem zq_X8_heavyBehind {p : Program} {l : Launch} {e : Env} {s : State} {m : MethodId} {args : Array Value} {below : List Frame} {meth : Method} {c : Code} {D : va_G} {ca : Nat → ClassId} {A : Nat → Prop} {a : Nat → Nat}  {P : Int64 → Prop} {I : zz_I} {L : zz_L} {k1 : Nat} {x2 : Int32} {x3 : Int32} {x4 : Int32} (X : zz_X p s m meth c cX8_heavyBehind RX8 (some .long) 7) (hA : ∀ q, s.heap.size ≤ q → A q) (hk1 : zz_dM[k1]? = some (.inl (0, 43)))  (h : zp_X8_heavyBehind k1 x2 x3 x4 P I L) : zz_Go p l e ({ frames := 1, cells := 0, slots := 0, locals := 23 } : Room) s m args below meth c 0 0 (MQ below (zz_Ql D ca zz_dM A a (fun r I9 L9 => P r ∧ I9 = I ∧ L9 = L)) args s 0 0 A) D ca zz_dM A 7 0 a [] [(0, .ref (a 0)), (1, .ref (a k1)), (2, .int x2), (3, .int x3), (4, .int x4)] I L := by
  obtain ⟨hx, hb, hml, hown, zw, hr, hlocks⟩ := id X
  intro H locs ls hB hl
  unfold zp_X8_heavyBehind at h
  refine lv_iload_n hx hb dX8_heavyBehind_0 rfl (lv_at hl 3 rfl) ?_
  refine lv_aload_n hx hb dX8_heavyBehind_1 rfl (lv_at hl 0 rfl) ?_
  refine lv_iload_n hx hb dX8_heavyBehind_2 rfl (lv_at hl 2 rfl) ?_
  refine zz_goip hB hA (zz_runV (As := [.int x2]) (rest := [.int x3]) hx hb hml hown zw hB zM_X8_152 (zc_X8_unitsOf l D ca a I L H.size h) zdM_0 rfl rfl hl.1 rfl (Nat.le_of_ble_eq_true rfl) rfl rfl ⟨Nat.le_of_ble_eq_true rfl, Nat.le_of_ble_eq_true rfl⟩ dX8_heavyBehind_3 ⟨Nat.le_of_ble_eq_true rfl, Nat.le_of_ble_eq_true rfl⟩) (fun r3 H locs h hB => ?_)
  refine lv_iadd hx hb dX8_heavyBehind_6 ?_
  refine lv_topi (fun v7 ev7 => ?_)
  have h := h v7 ev7
  refine lv_istore (lv' := [(5, .int v7), (0, .ref (a 0)), (1, .ref (a k1)), (2, .int x2), (3, .int x3), (4, .int x4)]) hx hb dX8_heavyBehind_7 hl (by decide) rfl (fun ls hl => ?_)
  refine lv_iload hx hb dX8_heavyBehind_9 (lv_at hl 5 rfl) ?_
  refine lv_aload_n hx hb dX8_heavyBehind_11 rfl (lv_at hl 2 rfl) ?_
  refine lv_bipush (v := (11 : Int32)) hx hb dX8_heavyBehind_12 (by decide) ?_
  refine lv_iload_n hx hb dX8_heavyBehind_14 rfl (lv_at hl 3 rfl) ?_
  refine lv_iadd hx hb dX8_heavyBehind_15 ?_
  obtain ⟨hi16, h⟩ := h
  refine zz_iald hx hb hB hk1 hi16 dX8_heavyBehind_16 ?_
  refine lv_isub hx hb dX8_heavyBehind_17 ?_
  refine lv_topi (fun v18 ev18 => ?_)
  have h := h v18 ev18
  refine lv_istore (lv' := [(6, .int v18), (5, .int v7), (0, .ref (a 0)), (1, .ref (a k1)), (2, .int x2), (3, .int x3), (4, .int x4)]) hx hb dX8_heavyBehind_18 hl (by decide) rfl (fun ls hl => ?_)
  refine lv_iload hx hb dX8_heavyBehind_20 (lv_at hl 0 rfl) ?_
  refine lv_if_ge (tgt := 27) hx hb dX8_heavyBehind_22 (by decide) (fun c22 => ?_) (fun c22 => ?_)
  · have h := h.1 c22
    refine lv_iload hx hb dX8_heavyBehind_27 (lv_at hl 1 rfl) ?_
    refine lv_aload_n hx hb dX8_heavyBehind_29 rfl (lv_at hl 3 rfl) ?_
    refine lv_iconst (v := (0 : Int32)) hx hb dX8_heavyBehind_30 (by decide) ?_
    obtain ⟨hi31, h⟩ := h
    refine zz_iald hx hb hB hk1 hi31 dX8_heavyBehind_31 ?_
    refine lv_icmp_ne (tgt := 48) hx hb dX8_heavyBehind_32 (by decide) (fun c32 => ?_) (fun c32 => ?_)
    · have h := h.1 c32
      refine lv_aload_n hx hb dX8_heavyBehind_48 rfl (lv_at hl 2 rfl) ?_
      refine zz_getr (k' := 22) hx hb hown zw hB zF_X8_74 zdM_0 rfl rfl dX8_heavyBehind_49 ?_
      refine lv_sipush (v := (657 : Int32)) hx hb dX8_heavyBehind_52 (by decide) ?_
      refine lv_iload hx hb dX8_heavyBehind_55 (lv_at hl 1 rfl) ?_
      refine lv_iconst (v := (1 : Int32)) hx hb dX8_heavyBehind_57 (by decide) ?_
      refine lv_iadd hx hb dX8_heavyBehind_58 ?_
      refine lv_imul hx hb dX8_heavyBehind_59 ?_
      refine lv_bipush (v := (73 : Int32)) hx hb dX8_heavyBehind_60 (by decide) ?_
      refine lv_iload_n hx hb dX8_heavyBehind_62 rfl (lv_at hl 4 rfl) ?_
      refine lv_imul hx hb dX8_heavyBehind_63 ?_
      refine lv_iadd hx hb dX8_heavyBehind_64 ?_
      refine lv_iload hx hb dX8_heavyBehind_65 (lv_at hl 0 rfl) ?_
      refine lv_iadd hx hb dX8_heavyBehind_67 ?_
      obtain ⟨hi68, h⟩ := h
      refine zz_lald hx hb hB zdM_22 hi68 dX8_heavyBehind_68 ?_
      exact zz_lret hx hb hr hlocks hB ⟨h, rfl, rfl⟩ dX8_heavyBehind_69
    · have h := h.2 c32
      refine lv_iload hx hb dX8_heavyBehind_35 (lv_at hl 0 rfl) ?_
      refine lv_if_ne (tgt := 44) hx hb dX8_heavyBehind_37 (by decide) (fun c37 => ?_) (fun c37 => ?_)
      · have h := h.1 c37
        refine lv_lconst (v := (0 : Int64)) hx hb dX8_heavyBehind_44 (by decide) ?_
        refine lv_goto (tgt := 69) hx hb dX8_heavyBehind_45 (by decide) ?_
        exact zz_lret hx hb hr hlocks hB ⟨h, rfl, rfl⟩ dX8_heavyBehind_69
      · have h := h.2 c37
        refine lv_lconst (v := (1 : Int64)) hx hb dX8_heavyBehind_40 (by decide) ?_
        refine lv_goto (tgt := 69) hx hb dX8_heavyBehind_41 (by decide) ?_
        exact zz_lret hx hb hr hlocks hB ⟨h, rfl, rfl⟩ dX8_heavyBehind_69
  · have h := h.2 c22
    refine lv_lconst (v := (0 : Int64)) hx hb dX8_heavyBehind_25 (by decide) ?_
    exact zz_lret hx hb hr hlocks hB ⟨h, rfl, rfl⟩ dX8_heavyBehind_26
theorem zc_X8_heavyBehind (l : Launch) (D : va_G) (ca : Nat → ClassId) (a : Nat → Nat) (I : zz_I) (L : zz_L) (sz : Nat) {k1 : Nat} {x2 : Int32} {x3 : Int32} {x4 : Int32} {P : Int64 → Prop} (hk1 : zz_dM[k1]? = some (.inl (0, 43))) (h : zp_X8_heavyBehind k1 x2 x3 x4 P I L) : Met l yX8_heavyBehind [.code yX8_heavyBehind cX8_heavyBehind 7 (some .long)] ({ frames := 1, cells := 0, slots := 0, locals := 23 } : Room) (zz_Pre D ca zz_dM [.ref (a 0), .ref (a k1), .int x2, .int x3, .int x4] a I L sz) (zz_Ql D ca zz_dM (zz_A ca zz_dM a I L sz) a (fun r I9 L9 => P r ∧ I9 = I ∧ L9 = L)) 0 0 (zz_A ca zz_dM a I L sz) :=
  zz_start (by decide) (Nat.le_of_ble_eq_true rfl) (fun p e s m below meth c X hsz hA => zq_X8_heavyBehind X hA hk1 h)
def zp_X8_aheadOf_71b (K59 : Int64 → Int32 → Int32 → Int32 → Int32 → Prop) (K71 : Int64 → Int32 → Prop) (P : Int64 → zz_I → zz_L → Prop) (k1 : Nat) (x2 : Int64) (x4 : Int32) (x5 : Int32) (x6 : Int32) (x7 : Int32) (x8 : Int32) (I : zz_I) (L : zz_L) : Prop := vp_in x7 8 ∧ (((I 25 x7.toNatClampNeg) ≤ x8 → vp_in x7 8 ∧ (vp_in ((11 : Int32) + (I 25 x7.toNatClampNeg)) 43 ∧ (∀ v136 : Int32, v136 = x4 - (I k1 ((11 : Int32) + (I 25 x7.toNatClampNeg)).toNatClampNeg) → (vp_in x7 8 ∧ (zp_X8_unitsOf (I 25 x7.toNatClampNeg) (fun r148 => ∀ v154 : Int32, v154 = x5 + (r148 + (1 : Int32)) → (vp_in x7 8 ∧ (∀ v163 : Int32, v163 = I 25 x7.toNatClampNeg → (∀ v165 : Int32, v165 = x7 + (1 : Int32) → (K59 x2 v136 v154 v163 v165))))) I L))))) ∧ (¬ (I 25 x7.toNatClampNeg) ≤ x8 → zp_X8_fits k1 x8 x5 x6 (fun r92 => (r92 = 0 → ∀ v114 : Int64, v114 = x2 + (0 : Int64) → (∀ v115 : Int32, v115 = x8 + (1 : Int32) → (K71 v114 v115))) ∧ (¬ r92 = 0 → zp_X8_heavyBehind k1 x8 x5 x4 (fun r106 => ∀ v114 : Int64, v114 = x2 + r106 → (∀ v115 : Int32, v115 = x8 + (1 : Int32) → (K71 v114 v115))) I L)) I L))
set_option maxHeartbeats 4000000 in
set_option maxRecDepth 100000 in
theorem zq_X8_aheadOf_71b {p : Program} {l : Launch} {e : Env} {s : State} {m : MethodId} {args : Array Value} {below : List Frame} {meth : Method} {c : Code} {D : va_G} {ca : Nat → ClassId} {A : Nat → Prop} {a : Nat → Nat} {K59 : Int64 → Int32 → Int32 → Int32 → Int32 → Prop} {K71 : Int64 → Int32 → Prop} {P : Int64 → zz_I → zz_L → Prop} {I : zz_I} {L : zz_L} {k1 : Nat} {x2 : Int64} {x4 : Int32} {x5 : Int32} {x6 : Int32} {x7 : Int32} {x8 : Int32} (X : zz_X p s m meth c cX8_aheadOf RX8 (some .long) 9) (hA : ∀ q, s.heap.size ≤ q → A q) (hk1 : zz_dM[k1]? = some (.inl (0, 43))) (hK59 : ∀ (y2 : Int64) (y4 : Int32) (y5 : Int32) (y6 : Int32) (y7 : Int32), K59 y2 y4 y5 y6 y7 → zz_Go p l e ({ frames := 5, cells := 0, slots := 0, locals := 126 } : Room) s m args below meth c 0 0 (MQ below (zz_Ql D ca zz_dM A a P) args s 0 0 A) D ca zz_dM A 9 59 a [] [(0, .ref (a 0)), (1, .ref (a k1)), (2, .long y2), (4, .int y4), (5, .int y5), (6, .int y6), (7, .int y7)] I L) (hK71 : ∀ (y2 : Int64) (y8 : Int32), K71 y2 y8 → zz_Go p l e ({ frames := 5, cells := 0, slots := 0, locals := 126 } : Room) s m args below meth c 0 0 (MQ below (zz_Ql D ca zz_dM A a P) args s 0 0 A) D ca zz_dM A 9 71 a [] [(0, .ref (a 0)), (1, .ref (a k1)), (2, .long y2), (4, .int x4), (5, .int x5), (6, .int x6), (7, .int x7), (8, .int y8)] I L) (h : zp_X8_aheadOf_71b K59 K71 P k1 x2 x4 x5 x6 x7 x8 I L) : zz_Go p l e ({ frames := 5, cells := 0, slots := 0, locals := 126 } : Room) s m args below meth c 0 0 (MQ below (zz_Ql D ca zz_dM A a P) args s 0 0 A) D ca zz_dM A 9 71 a [] [(0, .ref (a 0)), (1, .ref (a k1)), (2, .long x2), (4, .int x4), (5, .int x5), (6, .int x6), (7, .int x7), (8, .int x8)] I L := by
  obtain ⟨hx, hb, hml, hown, zw, hr, hlocks⟩ := id X
  intro H locs ls hB hl
  unfold zp_X8_aheadOf_71b at h
  refine lv_iload hx hb dX8_aheadOf_71 (lv_at hl 7 rfl) ?_
  refine lv_aload_n hx hb dX8_aheadOf_73 rfl (lv_at hl 0 rfl) ?_
  refine zz_getr (k' := 25) hx hb hown zw hB zF_X8_84 zdM_0 rfl rfl dX8_aheadOf_74 ?_
  refine lv_iload hx hb dX8_aheadOf_77 (lv_at hl 6 rfl) ?_
  obtain ⟨hi79, h⟩ := h
  refine zz_iald hx hb hB zdM_25 hi79 dX8_aheadOf_79 ?_
  refine lv_icmp_ge (tgt := 121) hx hb dX8_aheadOf_80 (by decide) (fun c80 => ?_) (fun c80 => ?_)
  · have h := h.1 c80
    refine lv_iload hx hb dX8_aheadOf_121 (lv_at hl 3 rfl) ?_
    refine lv_aload_n hx hb dX8_aheadOf_123 rfl (lv_at hl 1 rfl) ?_
    refine lv_bipush (v := (11 : Int32)) hx hb dX8_aheadOf_124 (by decide) ?_
    refine lv_aload_n hx hb dX8_aheadOf_126 rfl (lv_at hl 0 rfl) ?_
    refine zz_getr (k' := 25) hx hb hown zw hB zF_X8_84 zdM_0 rfl rfl dX8_aheadOf_127 ?_
    refine lv_iload hx hb dX8_aheadOf_130 (lv_at hl 6 rfl) ?_
    obtain ⟨hi132, h⟩ := h
    refine zz_iald hx hb hB zdM_25 hi132 dX8_aheadOf_132 ?_
    refine lv_iadd hx hb dX8_aheadOf_133 ?_
    obtain ⟨hi134, h⟩ := h
    refine zz_iald hx hb hB hk1 hi134 dX8_aheadOf_134 ?_
    refine lv_isub hx hb dX8_aheadOf_135 ?_
    refine lv_topi (fun v136 ev136 => ?_)
    have h := h v136 ev136
    refine lv_istore (lv' := [(4, .int v136), (0, .ref (a 0)), (1, .ref (a k1)), (2, .long x2), (5, .int x5), (6, .int x6), (7, .int x7), (8, .int x8)]) hx hb dX8_aheadOf_136 hl (by decide) rfl (fun ls hl => ?_)
    refine lv_iload hx hb dX8_aheadOf_138 (lv_at hl 4 rfl) ?_
    refine lv_aload_n hx hb dX8_aheadOf_140 rfl (lv_at hl 1 rfl) ?_
    refine lv_aload_n hx hb dX8_aheadOf_141 rfl (lv_at hl 1 rfl) ?_
    refine zz_getr (k' := 25) hx hb hown zw hB zF_X8_84 zdM_0 rfl rfl dX8_aheadOf_142 ?_
    refine lv_iload hx hb dX8_aheadOf_145 (lv_at hl 6 rfl) ?_
    obtain ⟨hi147, h⟩ := h
    refine zz_iald hx hb hB zdM_25 hi147 dX8_aheadOf_147 ?_
    refine zz_goip hB hA (zz_runV (As := [.int (I 25 x7.toNatClampNeg)]) (rest := [.int x5]) hx hb hml hown zw hB zM_X8_152 (zc_X8_unitsOf l D ca a I L H.size h) zdM_0 rfl rfl hl.1 rfl (Nat.le_of_ble_eq_true rfl) rfl rfl ⟨Nat.le_of_ble_eq_true rfl, Nat.le_of_ble_eq_true rfl⟩ dX8_aheadOf_148 ⟨Nat.le_of_ble_eq_true rfl, Nat.le_of_ble_eq_true rfl⟩) (fun r148 H locs h hB => ?_)
    refine lv_iconst (v := (1 : Int32)) hx hb dX8_aheadOf_151 (by decide) ?_
    refine lv_iadd hx hb dX8_aheadOf_152 ?_
    refine lv_iadd hx hb dX8_aheadOf_153 ?_
    refine lv_topi (fun v154 ev154 => ?_)
    have h := h v154 ev154
    refine lv_istore (lv' := [(5, .int v154), (4, .int v136), (0, .ref (a 0)), (1, .ref (a k1)), (2, .long x2), (6, .int x6), (7, .int x7), (8, .int x8)]) hx hb dX8_aheadOf_154 hl (by decide) rfl (fun ls hl => ?_)
    refine lv_aload_n hx hb dX8_aheadOf_156 rfl (lv_at hl 2 rfl) ?_
    refine zz_getr (k' := 25) hx hb hown zw hB zF_X8_84 zdM_0 rfl rfl dX8_aheadOf_157 ?_
    refine lv_iload hx hb dX8_aheadOf_160 (lv_at hl 6 rfl) ?_
    obtain ⟨hi162, h⟩ := h
    refine zz_iald hx hb hB zdM_25 hi162 dX8_aheadOf_162 ?_
    refine lv_topi (fun v163 ev163 => ?_)
    have h := h v163 ev163
    refine lv_istore (lv' := [(6, .int v163), (5, .int v154), (4, .int v136), (0, .ref (a 0)), (1, .ref (a k1)), (2, .long x2), (7, .int x7), (8, .int x8)]) hx hb dX8_aheadOf_163 hl (by decide) rfl (fun ls hl => ?_)
    obtain ⟨v165, ev165⟩ : ∃ z : Int32, z = x7 + (1 : Int32) := ⟨_, rfl⟩
    have h := h v165 ev165
    refine lv_iinc (v := v165) (lv' := [(7, .int v165), (6, .int v163), (5, .int v154), (4, .int v136), (0, .ref (a 0)), (1, .ref (a k1)), (2, .long x2), (8, .int x8)]) hx hb dX8_aheadOf_165 hl (k := 6) rfl (by rw [ev165]; rfl) (by decide) rfl (fun ls hl => ?_)
    refine lv_goto (tgt := 59) hx hb dX8_aheadOf_168 (by decide) ?_
    exact hK59 _ _ _ _ _ h H locs ls hB (lv_sub hl [4, 5, 6, 3, 2, 1, 0] rfl)
  · have h := h.2 c80
    refine lv_lload_n hx hb dX8_aheadOf_83 rfl (lv_at hl 2 rfl) ?_
    refine lv_aload_n hx hb dX8_aheadOf_84 rfl (lv_at hl 0 rfl) ?_
    refine lv_aload_n hx hb dX8_aheadOf_85 rfl (lv_at hl 1 rfl) ?_
    refine lv_iload hx hb dX8_aheadOf_86 (lv_at hl 7 rfl) ?_
    refine lv_iload hx hb dX8_aheadOf_88 (lv_at hl 4 rfl) ?_
    refine lv_iload hx hb dX8_aheadOf_90 (lv_at hl 5 rfl) ?_
    refine zz_goip hB hA (zz_runV (As := [.ref (a k1), .int x8, .int x5, .int x6]) (rest := [.long x2]) hx hb hml hown zw hB zM_X8_199 (zc_X8_fits l D ca a I L H.size hk1 h) zdM_0 rfl rfl hl.1 rfl (Nat.le_of_ble_eq_true rfl) rfl rfl ⟨Nat.le_of_ble_eq_true rfl, Nat.le_of_ble_eq_true rfl⟩ dX8_aheadOf_92 ⟨Nat.le_of_ble_eq_true rfl, Nat.le_of_ble_eq_true rfl⟩) (fun r92 H locs h hB => ?_)
    refine lv_if_eq (tgt := 112) hx hb dX8_aheadOf_95 (by decide) (fun c95 => ?_) (fun c95 => ?_)
    · have h := h.1 c95
      refine lv_lconst (v := (0 : Int64)) hx hb dX8_aheadOf_112 (by decide) ?_
      refine lv_ladd hx hb dX8_aheadOf_113 ?_
      refine lv_topl (fun v114 ev114 => ?_)
      have h := h v114 ev114
      refine lv_lstore_n (lv' := [(2, .long v114), (0, .ref (a 0)), (1, .ref (a k1)), (4, .int x4), (5, .int x5), (6, .int x6), (7, .int x7), (8, .int x8)]) hx hb dX8_aheadOf_114 rfl hl (by decide) rfl (fun ls hl => ?_)
      obtain ⟨v115, ev115⟩ : ∃ z : Int32, z = x8 + (1 : Int32) := ⟨_, rfl⟩
      have h := h v115 ev115
      refine lv_iinc (v := v115) (lv' := [(8, .int v115), (2, .long v114), (0, .ref (a 0)), (1, .ref (a k1)), (4, .int x4), (5, .int x5), (6, .int x6), (7, .int x7)]) hx hb dX8_aheadOf_115 hl (k := 7) rfl (by rw [ev115]; rfl) (by decide) rfl (fun ls hl => ?_)
      refine lv_goto (tgt := 71) hx hb dX8_aheadOf_118 (by decide) ?_
      exact hK71 _ _ h H locs ls hB (lv_sub hl [2, 3, 1, 4, 5, 6, 7, 0] rfl)
    · have h := h.2 c95
      refine lv_aload_n hx hb dX8_aheadOf_98 rfl (lv_at hl 0 rfl) ?_
      refine lv_aload_n hx hb dX8_aheadOf_99 rfl (lv_at hl 1 rfl) ?_
      refine lv_iload hx hb dX8_aheadOf_100 (lv_at hl 7 rfl) ?_
      refine lv_iload hx hb dX8_aheadOf_102 (lv_at hl 4 rfl) ?_
      refine lv_iload hx hb dX8_aheadOf_104 (lv_at hl 3 rfl) ?_
      refine zz_golp hB hA (zz_runV (As := [.ref (a k1), .int x8, .int x5, .int x4]) (rest := [.long x2]) hx hb hml hown zw hB zM_X8_219 (zc_X8_heavyBehind l D ca a I L H.size hk1 h) zdM_0 rfl rfl hl.1 rfl (Nat.le_of_ble_eq_true rfl) rfl rfl ⟨Nat.le_of_ble_eq_true rfl, Nat.le_of_ble_eq_true rfl⟩ dX8_aheadOf_106 ⟨Nat.le_of_ble_eq_true rfl, Nat.le_of_ble_eq_true rfl⟩) (fun r106 H locs h hB => ?_)
      refine lv_goto (tgt := 113) hx hb dX8_aheadOf_109 (by decide) ?_
      refine lv_ladd hx hb dX8_aheadOf_113 ?_
      refine lv_topl (fun v114 ev114 => ?_)
      have h := h v114 ev114
      refine lv_lstore_n (lv' := [(2, .long v114), (0, .ref (a 0)), (1, .ref (a k1)), (4, .int x4), (5, .int x5), (6, .int x6), (7, .int x7), (8, .int x8)]) hx hb dX8_aheadOf_114 rfl hl (by decide) rfl (fun ls hl => ?_)
      obtain ⟨v115, ev115⟩ : ∃ z : Int32, z = x8 + (1 : Int32) := ⟨_, rfl⟩
      have h := h v115 ev115
      refine lv_iinc (v := v115) (lv' := [(8, .int v115), (2, .long v114), (0, .ref (a 0)), (1, .ref (a k1)), (4, .int x4), (5, .int x5), (6, .int x6), (7, .int x7)]) hx hb dX8_aheadOf_115 hl (k := 7) rfl (by rw [ev115]; rfl) (by decide) rfl (fun ls hl => ?_)
      refine lv_goto (tgt := 71) hx hb dX8_aheadOf_118 (by decide) ?_
      exact hK71 _ _ h H locs ls hB (lv_sub hl [2, 3, 1, 4, 5, 6, 7, 0] rfl)
def zp_X8_aheadOf_71 (K59 : Int64 → Int32 → Int32 → Int32 → Int32 → Prop) (P : Int64 → zz_I → zz_L → Prop) (k1 : Nat) (x2 : Int64) (x4 : Int32) (x5 : Int32) (x6 : Int32) (x7 : Int32) (x8 : Int32) (I : zz_I) (L : zz_L) : Prop := ∃ (Inv : Int64 → Int32 → Prop) (μ : Int64 → Int32 → Nat), Inv x2 x8 ∧ ∀ (y2 : Int64) (y8 : Int32), Inv y2 y8 → zp_X8_aheadOf_71b K59 (fun z2 z8 => Inv z2 z8 ∧ μ z2 z8 < μ y2 y8) P k1 y2 x4 x5 x6 x7 y8 I L
set_option maxHeartbeats 4000000 in
set_option maxRecDepth 100000 in
theorem zq_X8_aheadOf_71 {p : Program} {l : Launch} {e : Env} {s : State} {m : MethodId} {args : Array Value} {below : List Frame} {meth : Method} {c : Code} {D : va_G} {ca : Nat → ClassId} {A : Nat → Prop} {a : Nat → Nat} {K59 : Int64 → Int32 → Int32 → Int32 → Int32 → Prop} {P : Int64 → zz_I → zz_L → Prop} {I : zz_I} {L : zz_L} {k1 : Nat} {x2 : Int64} {x4 : Int32} {x5 : Int32} {x6 : Int32} {x7 : Int32} {x8 : Int32} (X : zz_X p s m meth c cX8_aheadOf RX8 (some .long) 9) (hA : ∀ q, s.heap.size ≤ q → A q) (hk1 : zz_dM[k1]? = some (.inl (0, 43))) (hK59 : ∀ (y2 : Int64) (y4 : Int32) (y5 : Int32) (y6 : Int32) (y7 : Int32), K59 y2 y4 y5 y6 y7 → zz_Go p l e ({ frames := 5, cells := 0, slots := 0, locals := 126 } : Room) s m args below meth c 0 0 (MQ below (zz_Ql D ca zz_dM A a P) args s 0 0 A) D ca zz_dM A 9 59 a [] [(0, .ref (a 0)), (1, .ref (a k1)), (2, .long y2), (4, .int y4), (5, .int y5), (6, .int y6), (7, .int y7)] I L) (h : zp_X8_aheadOf_71 K59 P k1 x2 x4 x5 x6 x7 x8 I L) : zz_Go p l e ({ frames := 5, cells := 0, slots := 0, locals := 126 } : Room) s m args below meth c 0 0 (MQ below (zz_Ql D ca zz_dM A a P) args s 0 0 A) D ca zz_dM A 9 71 a [] [(0, .ref (a 0)), (1, .ref (a k1)), (2, .long x2), (4, .int x4), (5, .int x5), (6, .int x6), (7, .int x7), (8, .int x8)] I L := by
  unfold zp_X8_aheadOf_71 at h
  obtain ⟨Inv, μ, hv0, hs⟩ := h
  have key : ∀ (n9 : Nat) (y2 : Int64) (y8 : Int32), μ y2 y8 < n9 → Inv y2 y8 → zz_Go p l e ({ frames := 5, cells := 0, slots := 0, locals := 126 } : Room) s m args below meth c 0 0 (MQ below (zz_Ql D ca zz_dM A a P) args s 0 0 A) D ca zz_dM A 9 71 a [] [(0, .ref (a 0)), (1, .ref (a k1)), (2, .long y2), (4, .int x4), (5, .int x5), (6, .int x6), (7, .int x7), (8, .int y8)] I L := by
    intro n9
    induction n9 with
    | zero => intro y2 y8 hn; exact absurd hn (Nat.not_lt_zero _)
    | succ n9 ih =>
      intro y2 y8 hn hi
      exact zq_X8_aheadOf_71b (K71 := (fun z2 z8 => Inv z2 z8 ∧ μ z2 z8 < μ y2 y8)) X hA hk1 hK59 (fun z2 z8 hz => ih z2 z8 (Nat.lt_of_lt_of_le hz.2 (Nat.le_of_lt_succ hn)) hz.1) (hs y2 y8 hi)
  exact key _ x2 x8 (Nat.lt_succ_self _) hv0
def zp_X8_aheadOf_59b (K59 : Int64 → Int32 → Int32 → Int32 → Int32 → Prop) (P : Int64 → zz_I → zz_L → Prop) (k1 : Nat) (x2 : Int64) (x4 : Int32) (x5 : Int32) (x6 : Int32) (x7 : Int32) (I : zz_I) (L : zz_L) : Prop := ((I 0 33) ≤ x7 → P x2 I L) ∧ (¬ (I 0 33) ≤ x7 → zp_X8_aheadOf_71 K59 P k1 x2 x4 x5 x6 x7 (0 : Int32) I L)
set_option maxHeartbeats 4000000 in
set_option maxRecDepth 100000 in
theorem zq_X8_aheadOf_59b {p : Program} {l : Launch} {e : Env} {s : State} {m : MethodId} {args : Array Value} {below : List Frame} {meth : Method} {c : Code} {D : va_G} {ca : Nat → ClassId} {A : Nat → Prop} {a : Nat → Nat} {K59 : Int64 → Int32 → Int32 → Int32 → Int32 → Prop} {P : Int64 → zz_I → zz_L → Prop} {I : zz_I} {L : zz_L} {k1 : Nat} {x2 : Int64} {x4 : Int32} {x5 : Int32} {x6 : Int32} {x7 : Int32} (X : zz_X p s m meth c cX8_aheadOf RX8 (some .long) 9) (hA : ∀ q, s.heap.size ≤ q → A q) (hk1 : zz_dM[k1]? = some (.inl (0, 43))) (hK59 : ∀ (y2 : Int64) (y4 : Int32) (y5 : Int32) (y6 : Int32) (y7 : Int32), K59 y2 y4 y5 y6 y7 → zz_Go p l e ({ frames := 5, cells := 0, slots := 0, locals := 126 } : Room) s m args below meth c 0 0 (MQ below (zz_Ql D ca zz_dM A a P) args s 0 0 A) D ca zz_dM A 9 59 a [] [(0, .ref (a 0)), (1, .ref (a k1)), (2, .long y2), (4, .int y4), (5, .int y5), (6, .int y6), (7, .int y7)] I L) (h : zp_X8_aheadOf_59b K59 P k1 x2 x4 x5 x6 x7 I L) : zz_Go p l e ({ frames := 5, cells := 0, slots := 0, locals := 126 } : Room) s m args below meth c 0 0 (MQ below (zz_Ql D ca zz_dM A a P) args s 0 0 A) D ca zz_dM A 9 59 a [] [(0, .ref (a 0)), (1, .ref (a k1)), (2, .long x2), (4, .int x4), (5, .int x5), (6, .int x6), (7, .int x7)] I L := by
  obtain ⟨hx, hb, hml, hown, zw, hr, hlocks⟩ := id X
  intro H locs ls hB hl
  unfold zp_X8_aheadOf_59b at h
  refine lv_iload hx hb dX8_aheadOf_59 (lv_at hl 6 rfl) ?_
  refine lv_aload_n hx hb dX8_aheadOf_61 rfl (lv_at hl 0 rfl) ?_
  refine zz_geti hx hb hown zw hB zF_X8_213 zdM_0 rfl dX8_aheadOf_62 ?_
  refine lv_icmp_ge (tgt := 171) hx hb dX8_aheadOf_65 (by decide) (fun c65 => ?_) (fun c65 => ?_)
  · have h := h.1 c65
    refine lv_lload_n hx hb dX8_aheadOf_171 rfl (lv_at hl 2 rfl) ?_
    exact zz_lret hx hb hr hlocks hB h dX8_aheadOf_172
  · have h := h.2 c65
    refine lv_iconst (v := (0 : Int32)) hx hb dX8_aheadOf_68 (by decide) ?_
    refine lv_istore (lv' := [(8, .int (0 : Int32)), (0, .ref (a 0)), (1, .ref (a k1)), (2, .long x2), (4, .int x4), (5, .int x5), (6, .int x6), (7, .int x7)]) hx hb dX8_aheadOf_69 hl (by decide) rfl (fun ls hl => ?_)
    exact zq_X8_aheadOf_71 X hA hk1 hK59 h H locs ls hB (lv_sub hl [1, 2, 3, 4, 5, 6, 7, 0] rfl)
def zp_X8_aheadOf_59  (P : Int64 → zz_I → zz_L → Prop) (k1 : Nat) (x2 : Int64) (x4 : Int32) (x5 : Int32) (x6 : Int32) (x7 : Int32) (I : zz_I) (L : zz_L) : Prop := ∃ (Inv : Int64 → Int32 → Int32 → Int32 → Int32 → Prop) (μ : Int64 → Int32 → Int32 → Int32 → Int32 → Nat), Inv x2 x4 x5 x6 x7 ∧ ∀ (y2 : Int64) (y4 : Int32) (y5 : Int32) (y6 : Int32) (y7 : Int32), Inv y2 y4 y5 y6 y7 → zp_X8_aheadOf_59b  (fun z2 z4 z5 z6 z7 => Inv z2 z4 z5 z6 z7 ∧ μ z2 z4 z5 z6 z7 < μ y2 y4 y5 y6 y7) P k1 y2 y4 y5 y6 y7 I L
set_option maxHeartbeats 4000000 in
set_option maxRecDepth 100000 in
theorem zq_X8_aheadOf_59 {p : Program} {l : Launch} {e : Env} {s : State} {m : MethodId} {args : Array Value} {below : List Frame} {meth : Method} {c : Code} {D : va_G} {ca : Nat → ClassId} {A : Nat → Prop} {a : Nat → Nat}  {P : Int64 → zz_I → zz_L → Prop} {I : zz_I} {L : zz_L} {k1 : Nat} {x2 : Int64} {x4 : Int32} {x5 : Int32} {x6 : Int32} {x7 : Int32} (X : zz_X p s m meth c cX8_aheadOf RX8 (some .long) 9) (hA : ∀ q, s.heap.size ≤ q → A q) (hk1 : zz_dM[k1]? = some (.inl (0, 43)))  (h : zp_X8_aheadOf_59  P k1 x2 x4 x5 x6 x7 I L) : zz_Go p l e ({ frames := 5, cells := 0, slots := 0, locals := 126 } : Room) s m args below meth c 0 0 (MQ below (zz_Ql D ca zz_dM A a P) args s 0 0 A) D ca zz_dM A 9 59 a [] [(0, .ref (a 0)), (1, .ref (a k1)), (2, .long x2), (4, .int x4), (5, .int x5), (6, .int x6), (7, .int x7)] I L := by
  unfold zp_X8_aheadOf_59 at h
  obtain ⟨Inv, μ, hv0, hs⟩ := h
  have key : ∀ (n9 : Nat) (y2 : Int64) (y4 : Int32) (y5 : Int32) (y6 : Int32) (y7 : Int32), μ y2 y4 y5 y6 y7 < n9 → Inv y2 y4 y5 y6 y7 → zz_Go p l e ({ frames := 5, cells := 0, slots := 0, locals := 126 } : Room) s m args below meth c 0 0 (MQ below (zz_Ql D ca zz_dM A a P) args s 0 0 A) D ca zz_dM A 9 59 a [] [(0, .ref (a 0)), (1, .ref (a k1)), (2, .long y2), (4, .int y4), (5, .int y5), (6, .int y6), (7, .int y7)] I L := by
    intro n9
    induction n9 with
    | zero => intro y2 y4 y5 y6 y7 hn; exact absurd hn (Nat.not_lt_zero _)
    | succ n9 ih =>
      intro y2 y4 y5 y6 y7 hn hi
      exact zq_X8_aheadOf_59b (K59 := (fun z2 z4 z5 z6 z7 => Inv z2 z4 z5 z6 z7 ∧ μ z2 z4 z5 z6 z7 < μ y2 y4 y5 y6 y7)) X hA hk1  (fun z2 z4 z5 z6 z7 hz => ih z2 z4 z5 z6 z7 (Nat.lt_of_lt_of_le hz.2 (Nat.le_of_lt_succ hn)) hz.1) (hs y2 y4 y5 y6 y7 hi)
  exact key _ x2 x4 x5 x6 x7 (Nat.lt_succ_self _) hv0
def zp_X8_aheadOf_16b (K16 : Int64 → Int32 → Prop) (P : Int64 → zz_I → zz_L → Prop) (k1 : Nat) (x2 : Int64) (x4 : Int32) (I : zz_I) (L : zz_L) : Prop := ((73 : Int32) ≤ x4 → ∀ v47 : Int32, v47 = I 0 34 → (zp_X8_aheadOf_59 P k1 x2 v47 (0 : Int32) (8 : Int32) (0 : Int32) I L)) ∧ (¬ (73 : Int32) ≤ x4 → vp_in ((584 : Int32) + x4) 16425 ∧ (∀ v36 : Int64, v36 = x2 + (L 22 ((584 : Int32) + x4).toNatClampNeg) → (∀ v37 : Int32, v37 = x4 + (1 : Int32) → (K16 v36 v37))))
set_option maxHeartbeats 4000000 in
set_option maxRecDepth 100000 in
theorem zq_X8_aheadOf_16b {p : Program} {l : Launch} {e : Env} {s : State} {m : MethodId} {args : Array Value} {below : List Frame} {meth : Method} {c : Code} {D : va_G} {ca : Nat → ClassId} {A : Nat → Prop} {a : Nat → Nat} {K16 : Int64 → Int32 → Prop} {P : Int64 → zz_I → zz_L → Prop} {I : zz_I} {L : zz_L} {k1 : Nat} {x2 : Int64} {x4 : Int32} (X : zz_X p s m meth c cX8_aheadOf RX8 (some .long) 9) (hA : ∀ q, s.heap.size ≤ q → A q) (hk1 : zz_dM[k1]? = some (.inl (0, 43))) (hK16 : ∀ (y2 : Int64) (y4 : Int32), K16 y2 y4 → zz_Go p l e ({ frames := 5, cells := 0, slots := 0, locals := 126 } : Room) s m args below meth c 0 0 (MQ below (zz_Ql D ca zz_dM A a P) args s 0 0 A) D ca zz_dM A 9 16 a [] [(0, .ref (a 0)), (1, .ref (a k1)), (2, .long y2), (4, .int y4)] I L) (h : zp_X8_aheadOf_16b K16 P k1 x2 x4 I L) : zz_Go p l e ({ frames := 5, cells := 0, slots := 0, locals := 126 } : Room) s m args below meth c 0 0 (MQ below (zz_Ql D ca zz_dM A a P) args s 0 0 A) D ca zz_dM A 9 16 a [] [(0, .ref (a 0)), (1, .ref (a k1)), (2, .long x2), (4, .int x4)] I L := by
  obtain ⟨hx, hb, hml, hown, zw, hr, hlocks⟩ := id X
  intro H locs ls hB hl
  unfold zp_X8_aheadOf_16b at h
  refine lv_iload hx hb dX8_aheadOf_16 (lv_at hl 3 rfl) ?_
  refine lv_bipush (v := (73 : Int32)) hx hb dX8_aheadOf_18 (by decide) ?_
  refine lv_icmp_ge (tgt := 43) hx hb dX8_aheadOf_20 (by decide) (fun c20 => ?_) (fun c20 => ?_)
  · have h := h.1 c20
    refine lv_aload_n hx hb dX8_aheadOf_43 rfl (lv_at hl 0 rfl) ?_
    refine zz_geti hx hb hown zw hB zF_X8_216 zdM_0 rfl dX8_aheadOf_44 ?_
    refine lv_topi (fun v47 ev47 => ?_)
    have h := h v47 ev47
    refine lv_istore (lv' := [(4, .int v47), (0, .ref (a 0)), (1, .ref (a k1)), (2, .long x2)]) hx hb dX8_aheadOf_47 hl (by decide) rfl (fun ls hl => ?_)
    refine lv_iconst (v := (0 : Int32)) hx hb dX8_aheadOf_49 (by decide) ?_
    refine lv_istore (lv' := [(5, .int (0 : Int32)), (4, .int v47), (0, .ref (a 0)), (1, .ref (a k1)), (2, .long x2)]) hx hb dX8_aheadOf_50 hl (by decide) rfl (fun ls hl => ?_)
    refine lv_bipush (v := (8 : Int32)) hx hb dX8_aheadOf_52 (by decide) ?_
    refine lv_istore (lv' := [(6, .int (8 : Int32)), (5, .int (0 : Int32)), (4, .int v47), (0, .ref (a 0)), (1, .ref (a k1)), (2, .long x2)]) hx hb dX8_aheadOf_54 hl (by decide) rfl (fun ls hl => ?_)
    refine lv_iconst (v := (0 : Int32)) hx hb dX8_aheadOf_56 (by decide) ?_
    refine lv_istore (lv' := [(7, .int (0 : Int32)), (6, .int (8 : Int32)), (5, .int (0 : Int32)), (4, .int v47), (0, .ref (a 0)), (1, .ref (a k1)), (2, .long x2)]) hx hb dX8_aheadOf_57 hl (by decide) rfl (fun ls hl => ?_)
    exact zq_X8_aheadOf_59 X hA hk1 h H locs ls hB (lv_sub hl [4, 5, 6, 3, 2, 1, 0] rfl)
  · have h := h.2 c20
    refine lv_lload_n hx hb dX8_aheadOf_23 rfl (lv_at hl 2 rfl) ?_
    refine lv_aload_n hx hb dX8_aheadOf_24 rfl (lv_at hl 0 rfl) ?_
    refine zz_getr (k' := 22) hx hb hown zw hB zF_X8_74 zdM_0 rfl rfl dX8_aheadOf_25 ?_
    refine lv_sipush (v := (584 : Int32)) hx hb dX8_aheadOf_28 (by decide) ?_
    refine lv_iload hx hb dX8_aheadOf_31 (lv_at hl 3 rfl) ?_
    refine lv_iadd hx hb dX8_aheadOf_33 ?_
    obtain ⟨hi34, h⟩ := h
    refine zz_lald hx hb hB zdM_22 hi34 dX8_aheadOf_34 ?_
    refine lv_ladd hx hb dX8_aheadOf_35 ?_
    refine lv_topl (fun v36 ev36 => ?_)
    have h := h v36 ev36
    refine lv_lstore_n (lv' := [(2, .long v36), (0, .ref (a 0)), (1, .ref (a k1)), (4, .int x4)]) hx hb dX8_aheadOf_36 rfl hl (by decide) rfl (fun ls hl => ?_)
    obtain ⟨v37, ev37⟩ : ∃ z : Int32, z = x4 + (1 : Int32) := ⟨_, rfl⟩
    have h := h v37 ev37
    refine lv_iinc (v := v37) (lv' := [(4, .int v37), (2, .long v36), (0, .ref (a 0)), (1, .ref (a k1))]) hx hb dX8_aheadOf_37 hl (k := 3) rfl (by rw [ev37]; rfl) (by decide) rfl (fun ls hl => ?_)
    refine lv_goto (tgt := 16) hx hb dX8_aheadOf_40 (by decide) ?_
    exact hK16 _ _ h H locs ls hB (lv_sub hl [2, 3, 1, 0] rfl)
def zp_X8_aheadOf_16  (P : Int64 → zz_I → zz_L → Prop) (k1 : Nat) (x2 : Int64) (x4 : Int32) (I : zz_I) (L : zz_L) : Prop := ∃ (Inv : Int64 → Int32 → Prop) (μ : Int64 → Int32 → Nat), Inv x2 x4 ∧ ∀ (y2 : Int64) (y4 : Int32), Inv y2 y4 → zp_X8_aheadOf_16b  (fun z2 z4 => Inv z2 z4 ∧ μ z2 z4 < μ y2 y4) P k1 y2 y4 I L
set_option maxHeartbeats 4000000 in
set_option maxRecDepth 100000 in
theorem zq_X8_aheadOf_16 {p : Program} {l : Launch} {e : Env} {s : State} {m : MethodId} {args : Array Value} {below : List Frame} {meth : Method} {c : Code} {D : va_G} {ca : Nat → ClassId} {A : Nat → Prop} {a : Nat → Nat}  {P : Int64 → zz_I → zz_L → Prop} {I : zz_I} {L : zz_L} {k1 : Nat} {x2 : Int64} {x4 : Int32} (X : zz_X p s m meth c cX8_aheadOf RX8 (some .long) 9) (hA : ∀ q, s.heap.size ≤ q → A q) (hk1 : zz_dM[k1]? = some (.inl (0, 43)))  (h : zp_X8_aheadOf_16  P k1 x2 x4 I L) : zz_Go p l e ({ frames := 5, cells := 0, slots := 0, locals := 126 } : Room) s m args below meth c 0 0 (MQ below (zz_Ql D ca zz_dM A a P) args s 0 0 A) D ca zz_dM A 9 16 a [] [(0, .ref (a 0)), (1, .ref (a k1)), (2, .long x2), (4, .int x4)] I L := by
  unfold zp_X8_aheadOf_16 at h
  obtain ⟨Inv, μ, hv0, hs⟩ := h
  have key : ∀ (n9 : Nat) (y2 : Int64) (y4 : Int32), μ y2 y4 < n9 → Inv y2 y4 → zz_Go p l e ({ frames := 5, cells := 0, slots := 0, locals := 126 } : Room) s m args below meth c 0 0 (MQ below (zz_Ql D ca zz_dM A a P) args s 0 0 A) D ca zz_dM A 9 16 a [] [(0, .ref (a 0)), (1, .ref (a k1)), (2, .long y2), (4, .int y4)] I L := by
    intro n9
    induction n9 with
    | zero => intro y2 y4 hn; exact absurd hn (Nat.not_lt_zero _)
    | succ n9 ih =>
      intro y2 y4 hn hi
      exact zq_X8_aheadOf_16b (K16 := (fun z2 z4 => Inv z2 z4 ∧ μ z2 z4 < μ y2 y4)) X hA hk1  (fun z2 z4 hz => ih z2 z4 (Nat.lt_of_lt_of_le hz.2 (Nat.le_of_lt_succ hn)) hz.1) (hs y2 y4 hi)
  exact key _ x2 x4 (Nat.lt_succ_self _) hv0
def zp_X8_aheadOf (k1 : Nat) (P : Int64 → zz_I → zz_L → Prop) (I : zz_I) (L : zz_L) : Prop := zp_X8_layHeavy k1 (0 : Int32) (fun I3 L3 => ∀ v14 : Int32, v14 = (I3 0 34) + (1 : Int32) → (zp_X8_aheadOf_16 P k1 (0 : Int64) v14 I3 L3)) I L
set_option maxHeartbeats 4000000 in
set_option maxRecDepth 100000 in
theorem zq_X8_aheadOf {p : Program} {l : Launch} {e : Env} {s : State} {m : MethodId} {args : Array Value} {below : List Frame} {meth : Method} {c : Code} {D : va_G} {ca : Nat → ClassId} {A : Nat → Prop} {a : Nat → Nat}  {P : Int64 → zz_I → zz_L → Prop} {I : zz_I} {L : zz_L} {k1 : Nat} (X : zz_X p s m meth c cX8_aheadOf RX8 (some .long) 9) (hA : ∀ q, s.heap.size ≤ q → A q) (hk1 : zz_dM[k1]? = some (.inl (0, 43)))  (h : zp_X8_aheadOf k1 P I L) : zz_Go p l e ({ frames := 5, cells := 0, slots := 0, locals := 126 } : Room) s m args below meth c 0 0 (MQ below (zz_Ql D ca zz_dM A a P) args s 0 0 A) D ca zz_dM A 9 0 a [] [(0, .ref (a 0)), (1, .ref (a k1))] I L := by
  obtain ⟨hx, hb, hml, hown, zw, hr, hlocks⟩ := id X
  intro H locs ls hB hl
  unfold zp_X8_aheadOf at h
  refine lv_aload_n hx hb dX8_aheadOf_0 rfl (lv_at hl 0 rfl) ?_
  refine lv_aload_n hx hb dX8_aheadOf_1 rfl (lv_at hl 1 rfl) ?_
  refine lv_iconst (v := (0 : Int32)) hx hb dX8_aheadOf_2 (by decide) ?_
  refine zz_gov hB hA (zz_runV (As := [.ref (a k1), .int (0 : Int32)]) (rest := []) hx hb hml hown zw hB zM_X8_223 (zc_X8_layHeavy l D ca a I L H.size hk1 h) zdM_0 rfl rfl hl.1 rfl (Nat.le_of_ble_eq_true rfl) rfl rfl ⟨Nat.le_of_ble_eq_true rfl, Nat.le_of_ble_eq_true rfl⟩ dX8_aheadOf_3 ⟨Nat.le_of_ble_eq_true rfl, Nat.le_of_ble_eq_true rfl⟩) (fun I3 L3 H locs h hB => ?_)
  refine lv_lconst (v := (0 : Int64)) hx hb dX8_aheadOf_6 (by decide) ?_
  refine lv_lstore_n (lv' := [(2, .long (0 : Int64)), (0, .ref (a 0)), (1, .ref (a k1))]) hx hb dX8_aheadOf_7 rfl hl (by decide) rfl (fun ls hl => ?_)
  refine lv_aload_n hx hb dX8_aheadOf_8 rfl (lv_at hl 1 rfl) ?_
  refine zz_geti hx hb hown zw hB zF_X8_216 zdM_0 rfl dX8_aheadOf_9 ?_
  refine lv_iconst (v := (1 : Int32)) hx hb dX8_aheadOf_12 (by decide) ?_
  refine lv_iadd hx hb dX8_aheadOf_13 ?_
  refine lv_topi (fun v14 ev14 => ?_)
  have h := h v14 ev14
  refine lv_istore (lv' := [(4, .int v14), (2, .long (0 : Int64)), (0, .ref (a 0)), (1, .ref (a k1))]) hx hb dX8_aheadOf_14 hl (by decide) rfl (fun ls hl => ?_)
  exact zq_X8_aheadOf_16 X hA hk1 h H locs ls hB (lv_sub hl [2, 3, 1, 0] rfl)
theorem zc_X8_aheadOf (l : Launch) (D : va_G) (ca : Nat → ClassId) (a : Nat → Nat) (I : zz_I) (L : zz_L) (sz : Nat) {k1 : Nat} {P : Int64 → zz_I → zz_L → Prop} (hk1 : zz_dM[k1]? = some (.inl (0, 43))) (h : zp_X8_aheadOf k1 P I L) : Met l yX8_aheadOf [.code yX8_aheadOf cX8_aheadOf 9 (some .long)] ({ frames := 5, cells := 0, slots := 0, locals := 126 } : Room) (zz_Pre D ca zz_dM [.ref (a 0), .ref (a k1)] a I L sz) (zz_Ql D ca zz_dM (zz_A ca zz_dM a I L sz) a P) 0 0 (zz_A ca zz_dM a I L sz) :=
  zz_start (by decide) (Nat.le_of_ble_eq_true rfl) (fun p e s m below meth c X hsz hA => zq_X8_aheadOf X hA hk1 h)
def zp_X8_layFrom_98 (K4 : Int32 → zz_I → zz_L → Prop) (K10 : Int32 → zz_I → zz_L → Prop) (P : zz_I → zz_L → Prop) (k1 : Nat) (x2 : Int32) (x3 : Int32) (x4 : Int64) (I : zz_I) (L : zz_L) : Prop := vp_in (((9 : Int32) * x2) + x3) 225 ∧ (∀ L110 : zz_L, L110 = zz_up L 23 (((9 : Int32) * x2) + x3).toNatClampNeg x4 → (∀ v111 : Int32, v111 = x3 + (1 : Int32) → (K10 v111 I L110)))
set_option maxHeartbeats 4000000 in
set_option maxRecDepth 100000 in
theorem zq_X8_layFrom_98 {p : Program} {l : Launch} {e : Env} {s : State} {m : MethodId} {args : Array Value} {below : List Frame} {meth : Method} {c : Code} {D : va_G} {ca : Nat → ClassId} {A : Nat → Prop} {a : Nat → Nat} {K4 : Int32 → zz_I → zz_L → Prop} {K10 : Int32 → zz_I → zz_L → Prop} {P : zz_I → zz_L → Prop} {I : zz_I} {L : zz_L} {k1 : Nat} {x2 : Int32} {x3 : Int32} {x4 : Int64} (X : zz_X p s m meth c cX8_layFrom RX8 none 8) (hA : ∀ q, s.heap.size ≤ q → A q) (hk1 : zz_dM[k1]? = some (.inl (0, 43))) (hK4 : ∀ (y2 : Int32) (I8 : zz_I) (L8 : zz_L), K4 y2 I8 L8 → zz_Go p l e ({ frames := 4, cells := 0, slots := 0, locals := 100 } : Room) s m args below meth c 0 0 (MQ below (zz_Qv D ca zz_dM A a P) args s 0 0 A) D ca zz_dM A 8 4 a [] [(0, .ref (a 0)), (1, .ref (a k1)), (2, .int y2)] I8 L8) (hK10 : ∀ (y3 : Int32) (I8 : zz_I) (L8 : zz_L), K10 y3 I8 L8 → zz_Go p l e ({ frames := 4, cells := 0, slots := 0, locals := 100 } : Room) s m args below meth c 0 0 (MQ below (zz_Qv D ca zz_dM A a P) args s 0 0 A) D ca zz_dM A 8 10 a [] [(0, .ref (a 0)), (1, .ref (a k1)), (2, .int x2), (3, .int y3)] I8 L8) (h : zp_X8_layFrom_98 K4 K10 P k1 x2 x3 x4 I L) : zz_Go p l e ({ frames := 4, cells := 0, slots := 0, locals := 100 } : Room) s m args below meth c 0 0 (MQ below (zz_Qv D ca zz_dM A a P) args s 0 0 A) D ca zz_dM A 8 98 a [] [(0, .ref (a 0)), (1, .ref (a k1)), (2, .int x2), (3, .int x3), (4, .long x4)] I L := by
  obtain ⟨hx, hb, hml, hown, zw, hr, hlocks⟩ := id X
  intro H locs ls hB hl
  unfold zp_X8_layFrom_98 at h
  refine lv_aload_n hx hb dX8_layFrom_98 rfl (lv_at hl 0 rfl) ?_
  refine zz_getr (k' := 23) hx hb hown zw hB zF_X8_78 zdM_0 rfl rfl dX8_layFrom_99 ?_
  refine lv_bipush (v := (9 : Int32)) hx hb dX8_layFrom_102 (by decide) ?_
  refine lv_iload_n hx hb dX8_layFrom_104 rfl (lv_at hl 2 rfl) ?_
  refine lv_imul hx hb dX8_layFrom_105 ?_
  refine lv_iload_n hx hb dX8_layFrom_106 rfl (lv_at hl 3 rfl) ?_
  refine lv_iadd hx hb dX8_layFrom_107 ?_
  refine lv_lload hx hb dX8_layFrom_108 (lv_at hl 4 rfl) ?_
  obtain ⟨hi110, h⟩ := h
  refine zz_last hx hb hB zdM_23 hi110 dX8_layFrom_110 (fun H locs hB => ?_)
  obtain ⟨L110, eL110⟩ : ∃ z : zz_L, z = zz_up L 23 (((9 : Int32) * x2) + x3).toNatClampNeg x4 := ⟨_, rfl⟩
  rw [← eL110] at hB
  have h := h L110 eL110
  obtain ⟨v111, ev111⟩ : ∃ z : Int32, z = x3 + (1 : Int32) := ⟨_, rfl⟩
  have h := h v111 ev111
  refine lv_iinc (v := v111) (lv' := [(3, .int v111), (0, .ref (a 0)), (1, .ref (a k1)), (2, .int x2), (4, .long x4)]) hx hb dX8_layFrom_111 hl (k := 3) rfl (by rw [ev111]; rfl) (by decide) rfl (fun ls hl => ?_)
  refine lv_goto (tgt := 10) hx hb dX8_layFrom_114 (by decide) ?_
  exact hK10 _ _ _ h H locs ls hB (lv_sub hl [1, 2, 3, 0] rfl)
def zp_X8_layFrom_22b (K4 : Int32 → zz_I → zz_L → Prop) (K10 : Int32 → zz_I → zz_L → Prop) (K22 : Int64 → Int32 → Prop) (P : zz_I → zz_L → Prop) (k1 : Nat) (x2 : Int32) (x3 : Int32) (x4 : Int64) (x6 : Int32) (I : zz_I) (L : zz_L) : Prop := ((I 0 5) ≤ x6 → zp_X8_layFrom_98 K4 K10 P k1 x2 x3 x4 I L) ∧ (¬ (I 0 5) ≤ x6 → vp_in (0 : Int32) 43 ∧ (((I k1 (0 : Int32).toNatClampNeg) ≤ x2 → zp_X8_layFrom_98 K4 K10 P k1 x2 x3 x4 I L) ∧ (¬ (I k1 (0 : Int32).toNatClampNeg) ≤ x2 → zp_X8_fits k1 x6 x2 x3 (fun r44 => (r44 = 0 → ∀ v92 : Int32, v92 = x6 + (1 : Int32) → (K22 x4 v92)) ∧ (¬ r44 = 0 → zp_X8_unitsOf x6 (fun r54 => ∀ v58 : Int32, v58 = x2 + r54 → (vp_in (0 : Int32) 43 ∧ ((¬ v58 = (I k1 (0 : Int32).toNatClampNeg) → vp_in (((9 : Int32) * (v58 + (1 : Int32))) + x6) 225 ∧ (∀ v90 : Int64, v90 = x4 + (L 23 (((9 : Int32) * (v58 + (1 : Int32))) + x6).toNatClampNeg) → (∀ v92 : Int32, v92 = x6 + (1 : Int32) → (K22 v90 v92)))) ∧ (v58 = (I k1 (0 : Int32).toNatClampNeg) → ∀ v90 : Int64, v90 = x4 + (1 : Int64) → (∀ v92 : Int32, v92 = x6 + (1 : Int32) → (K22 v90 v92)))))) I L)) I L)))
set_option maxHeartbeats 4000000 in
set_option maxRecDepth 100000 in
theorem zq_X8_layFrom_22b {p : Program} {l : Launch} {e : Env} {s : State} {m : MethodId} {args : Array Value} {below : List Frame} {meth : Method} {c : Code} {D : va_G} {ca : Nat → ClassId} {A : Nat → Prop} {a : Nat → Nat} {K4 : Int32 → zz_I → zz_L → Prop} {K10 : Int32 → zz_I → zz_L → Prop} {K22 : Int64 → Int32 → Prop} {P : zz_I → zz_L → Prop} {I : zz_I} {L : zz_L} {k1 : Nat} {x2 : Int32} {x3 : Int32} {x4 : Int64} {x6 : Int32} (X : zz_X p s m meth c cX8_layFrom RX8 none 8) (hA : ∀ q, s.heap.size ≤ q → A q) (hk1 : zz_dM[k1]? = some (.inl (0, 43))) (hK4 : ∀ (y2 : Int32) (I8 : zz_I) (L8 : zz_L), K4 y2 I8 L8 → zz_Go p l e ({ frames := 4, cells := 0, slots := 0, locals := 100 } : Room) s m args below meth c 0 0 (MQ below (zz_Qv D ca zz_dM A a P) args s 0 0 A) D ca zz_dM A 8 4 a [] [(0, .ref (a 0)), (1, .ref (a k1)), (2, .int y2)] I8 L8) (hK10 : ∀ (y3 : Int32) (I8 : zz_I) (L8 : zz_L), K10 y3 I8 L8 → zz_Go p l e ({ frames := 4, cells := 0, slots := 0, locals := 100 } : Room) s m args below meth c 0 0 (MQ below (zz_Qv D ca zz_dM A a P) args s 0 0 A) D ca zz_dM A 8 10 a [] [(0, .ref (a 0)), (1, .ref (a k1)), (2, .int x2), (3, .int y3)] I8 L8) (hK22 : ∀ (y4 : Int64) (y6 : Int32), K22 y4 y6 → zz_Go p l e ({ frames := 4, cells := 0, slots := 0, locals := 100 } : Room) s m args below meth c 0 0 (MQ below (zz_Qv D ca zz_dM A a P) args s 0 0 A) D ca zz_dM A 8 22 a [] [(0, .ref (a 0)), (1, .ref (a k1)), (2, .int x2), (3, .int x3), (4, .long y4), (6, .int y6)] I L) (h : zp_X8_layFrom_22b K4 K10 K22 P k1 x2 x3 x4 x6 I L) : zz_Go p l e ({ frames := 4, cells := 0, slots := 0, locals := 100 } : Room) s m args below meth c 0 0 (MQ below (zz_Qv D ca zz_dM A a P) args s 0 0 A) D ca zz_dM A 8 22 a [] [(0, .ref (a 0)), (1, .ref (a k1)), (2, .int x2), (3, .int x3), (4, .long x4), (6, .int x6)] I L := by
  obtain ⟨hx, hb, hml, hown, zw, hr, hlocks⟩ := id X
  intro H locs ls hB hl
  unfold zp_X8_layFrom_22b at h
  refine lv_iload hx hb dX8_layFrom_22 (lv_at hl 5 rfl) ?_
  refine lv_aload_n hx hb dX8_layFrom_24 rfl (lv_at hl 0 rfl) ?_
  refine zz_geti hx hb hown zw hB zF_X8_98 zdM_0 rfl dX8_layFrom_25 ?_
  refine lv_icmp_ge (tgt := 98) hx hb dX8_layFrom_28 (by decide) (fun c28 => ?_) (fun c28 => ?_)
  · have h := h.1 c28
    exact zq_X8_layFrom_98 X hA hk1 hK4 hK10 h H locs ls hB (lv_sub hl [0, 1, 2, 3, 4] rfl)
  · have h := h.2 c28
    refine lv_iload_n hx hb dX8_layFrom_31 rfl (lv_at hl 2 rfl) ?_
    refine lv_aload_n hx hb dX8_layFrom_32 rfl (lv_at hl 1 rfl) ?_
    refine lv_iconst (v := (0 : Int32)) hx hb dX8_layFrom_33 (by decide) ?_
    obtain ⟨hi34, h⟩ := h
    refine zz_iald hx hb hB hk1 hi34 dX8_layFrom_34 ?_
    refine lv_icmp_ge (tgt := 98) hx hb dX8_layFrom_35 (by decide) (fun c35 => ?_) (fun c35 => ?_)
    · have h := h.1 c35
      exact zq_X8_layFrom_98 X hA hk1 hK4 hK10 h H locs ls hB (lv_sub hl [0, 1, 2, 3, 4] rfl)
    · have h := h.2 c35
      refine lv_aload_n hx hb dX8_layFrom_38 rfl (lv_at hl 0 rfl) ?_
      refine lv_aload_n hx hb dX8_layFrom_39 rfl (lv_at hl 1 rfl) ?_
      refine lv_iload hx hb dX8_layFrom_40 (lv_at hl 5 rfl) ?_
      refine lv_iload_n hx hb dX8_layFrom_42 rfl (lv_at hl 2 rfl) ?_
      refine lv_iload_n hx hb dX8_layFrom_43 rfl (lv_at hl 3 rfl) ?_
      refine zz_goip hB hA (zz_runV (As := [.ref (a k1), .int x6, .int x2, .int x3]) (rest := []) hx hb hml hown zw hB zM_X8_199 (zc_X8_fits l D ca a I L H.size hk1 h) zdM_0 rfl rfl hl.1 rfl (Nat.le_of_ble_eq_true rfl) rfl rfl ⟨Nat.le_of_ble_eq_true rfl, Nat.le_of_ble_eq_true rfl⟩ dX8_layFrom_44 ⟨Nat.le_of_ble_eq_true rfl, Nat.le_of_ble_eq_true rfl⟩) (fun r44 H locs h hB => ?_)
      refine lv_if_eq (tgt := 92) hx hb dX8_layFrom_47 (by decide) (fun c47 => ?_) (fun c47 => ?_)
      · have h := h.1 c47
        obtain ⟨v92, ev92⟩ : ∃ z : Int32, z = x6 + (1 : Int32) := ⟨_, rfl⟩
        have h := h v92 ev92
        refine lv_iinc (v := v92) (lv' := [(6, .int v92), (0, .ref (a 0)), (1, .ref (a k1)), (2, .int x2), (3, .int x3), (4, .long x4)]) hx hb dX8_layFrom_92 hl (k := 5) rfl (by rw [ev92]; rfl) (by decide) rfl (fun ls hl => ?_)
        refine lv_goto (tgt := 22) hx hb dX8_layFrom_95 (by decide) ?_
        exact hK22 _ _ h H locs ls hB (lv_sub hl [1, 2, 3, 4, 5, 0] rfl)
      · have h := h.2 c47
        refine lv_iload_n hx hb dX8_layFrom_50 rfl (lv_at hl 2 rfl) ?_
        refine lv_aload_n hx hb dX8_layFrom_51 rfl (lv_at hl 0 rfl) ?_
        refine lv_iload hx hb dX8_layFrom_52 (lv_at hl 5 rfl) ?_
        refine zz_goip hB hA (zz_runV (As := [.int x6]) (rest := [.int x2]) hx hb hml hown zw hB zM_X8_152 (zc_X8_unitsOf l D ca a I L H.size h) zdM_0 rfl rfl hl.1 rfl (Nat.le_of_ble_eq_true rfl) rfl rfl ⟨Nat.le_of_ble_eq_true rfl, Nat.le_of_ble_eq_true rfl⟩ dX8_layFrom_54 ⟨Nat.le_of_ble_eq_true rfl, Nat.le_of_ble_eq_true rfl⟩) (fun r54 H locs h hB => ?_)
        refine lv_iadd hx hb dX8_layFrom_57 ?_
        refine lv_topi (fun v58 ev58 => ?_)
        have h := h v58 ev58
        refine lv_istore (lv' := [(7, .int v58), (0, .ref (a 0)), (1, .ref (a k1)), (2, .int x2), (3, .int x3), (4, .long x4), (6, .int x6)]) hx hb dX8_layFrom_58 hl (by decide) rfl (fun ls hl => ?_)
        refine lv_lload hx hb dX8_layFrom_60 (lv_at hl 5 rfl) ?_
        refine lv_iload hx hb dX8_layFrom_62 (lv_at hl 0 rfl) ?_
        refine lv_aload_n hx hb dX8_layFrom_64 rfl (lv_at hl 2 rfl) ?_
        refine lv_iconst (v := (0 : Int32)) hx hb dX8_layFrom_65 (by decide) ?_
        obtain ⟨hi66, h⟩ := h
        refine zz_iald hx hb hB hk1 hi66 dX8_layFrom_66 ?_
        refine lv_icmp_ne (tgt := 74) hx hb dX8_layFrom_67 (by decide) (fun c67 => ?_) (fun c67 => ?_)
        · have h := h.1 c67
          refine lv_aload_n hx hb dX8_layFrom_74 rfl (lv_at hl 1 rfl) ?_
          refine zz_getr (k' := 23) hx hb hown zw hB zF_X8_78 zdM_0 rfl rfl dX8_layFrom_75 ?_
          refine lv_bipush (v := (9 : Int32)) hx hb dX8_layFrom_78 (by decide) ?_
          refine lv_iload hx hb dX8_layFrom_80 (lv_at hl 0 rfl) ?_
          refine lv_iconst (v := (1 : Int32)) hx hb dX8_layFrom_82 (by decide) ?_
          refine lv_iadd hx hb dX8_layFrom_83 ?_
          refine lv_imul hx hb dX8_layFrom_84 ?_
          refine lv_iload hx hb dX8_layFrom_85 (lv_at hl 6 rfl) ?_
          refine lv_iadd hx hb dX8_layFrom_87 ?_
          obtain ⟨hi88, h⟩ := h
          refine zz_lald hx hb hB zdM_23 hi88 dX8_layFrom_88 ?_
          refine lv_ladd hx hb dX8_layFrom_89 ?_
          refine lv_topl (fun v90 ev90 => ?_)
          have h := h v90 ev90
          refine lv_lstore (lv' := [(4, .long v90), (7, .int v58), (0, .ref (a 0)), (1, .ref (a k1)), (2, .int x2), (3, .int x3), (6, .int x6)]) hx hb dX8_layFrom_90 hl (by decide) rfl (fun ls hl => ?_)
          obtain ⟨v92, ev92⟩ : ∃ z : Int32, z = x6 + (1 : Int32) := ⟨_, rfl⟩
          have h := h v92 ev92
          refine lv_iinc (v := v92) (lv' := [(6, .int v92), (4, .long v90), (7, .int v58), (0, .ref (a 0)), (1, .ref (a k1)), (2, .int x2), (3, .int x3)]) hx hb dX8_layFrom_92 hl (k := 6) rfl (by rw [ev92]; rfl) (by decide) rfl (fun ls hl => ?_)
          refine lv_goto (tgt := 22) hx hb dX8_layFrom_95 (by decide) ?_
          exact hK22 _ _ h H locs ls hB (lv_sub hl [3, 4, 5, 6, 1, 0] rfl)
        · have h := h.2 c67
          refine lv_lconst (v := (1 : Int64)) hx hb dX8_layFrom_70 (by decide) ?_
          refine lv_goto (tgt := 89) hx hb dX8_layFrom_71 (by decide) ?_
          refine lv_ladd hx hb dX8_layFrom_89 ?_
          refine lv_topl (fun v90 ev90 => ?_)
          have h := h v90 ev90
          refine lv_lstore (lv' := [(4, .long v90), (7, .int v58), (0, .ref (a 0)), (1, .ref (a k1)), (2, .int x2), (3, .int x3), (6, .int x6)]) hx hb dX8_layFrom_90 hl (by decide) rfl (fun ls hl => ?_)
          obtain ⟨v92, ev92⟩ : ∃ z : Int32, z = x6 + (1 : Int32) := ⟨_, rfl⟩
          have h := h v92 ev92
          refine lv_iinc (v := v92) (lv' := [(6, .int v92), (4, .long v90), (7, .int v58), (0, .ref (a 0)), (1, .ref (a k1)), (2, .int x2), (3, .int x3)]) hx hb dX8_layFrom_92 hl (k := 6) rfl (by rw [ev92]; rfl) (by decide) rfl (fun ls hl => ?_)
          refine lv_goto (tgt := 22) hx hb dX8_layFrom_95 (by decide) ?_
          exact hK22 _ _ h H locs ls hB (lv_sub hl [3, 4, 5, 6, 1, 0] rfl)
def zp_X8_layFrom_22 (K4 : Int32 → zz_I → zz_L → Prop) (K10 : Int32 → zz_I → zz_L → Prop) (P : zz_I → zz_L → Prop) (k1 : Nat) (x2 : Int32) (x3 : Int32) (x4 : Int64) (x6 : Int32) (I : zz_I) (L : zz_L) : Prop := ∃ (Inv : Int64 → Int32 → Prop) (μ : Int64 → Int32 → Nat), Inv x4 x6 ∧ ∀ (y4 : Int64) (y6 : Int32), Inv y4 y6 → zp_X8_layFrom_22b K4 K10 (fun z4 z6 => Inv z4 z6 ∧ μ z4 z6 < μ y4 y6) P k1 x2 x3 y4 y6 I L
set_option maxHeartbeats 4000000 in
set_option maxRecDepth 100000 in
theorem zq_X8_layFrom_22 {p : Program} {l : Launch} {e : Env} {s : State} {m : MethodId} {args : Array Value} {below : List Frame} {meth : Method} {c : Code} {D : va_G} {ca : Nat → ClassId} {A : Nat → Prop} {a : Nat → Nat} {K4 : Int32 → zz_I → zz_L → Prop} {K10 : Int32 → zz_I → zz_L → Prop} {P : zz_I → zz_L → Prop} {I : zz_I} {L : zz_L} {k1 : Nat} {x2 : Int32} {x3 : Int32} {x4 : Int64} {x6 : Int32} (X : zz_X p s m meth c cX8_layFrom RX8 none 8) (hA : ∀ q, s.heap.size ≤ q → A q) (hk1 : zz_dM[k1]? = some (.inl (0, 43))) (hK4 : ∀ (y2 : Int32) (I8 : zz_I) (L8 : zz_L), K4 y2 I8 L8 → zz_Go p l e ({ frames := 4, cells := 0, slots := 0, locals := 100 } : Room) s m args below meth c 0 0 (MQ below (zz_Qv D ca zz_dM A a P) args s 0 0 A) D ca zz_dM A 8 4 a [] [(0, .ref (a 0)), (1, .ref (a k1)), (2, .int y2)] I8 L8) (hK10 : ∀ (y3 : Int32) (I8 : zz_I) (L8 : zz_L), K10 y3 I8 L8 → zz_Go p l e ({ frames := 4, cells := 0, slots := 0, locals := 100 } : Room) s m args below meth c 0 0 (MQ below (zz_Qv D ca zz_dM A a P) args s 0 0 A) D ca zz_dM A 8 10 a [] [(0, .ref (a 0)), (1, .ref (a k1)), (2, .int x2), (3, .int y3)] I8 L8) (h : zp_X8_layFrom_22 K4 K10 P k1 x2 x3 x4 x6 I L) : zz_Go p l e ({ frames := 4, cells := 0, slots := 0, locals := 100 } : Room) s m args below meth c 0 0 (MQ below (zz_Qv D ca zz_dM A a P) args s 0 0 A) D ca zz_dM A 8 22 a [] [(0, .ref (a 0)), (1, .ref (a k1)), (2, .int x2), (3, .int x3), (4, .long x4), (6, .int x6)] I L := by
  unfold zp_X8_layFrom_22 at h
  obtain ⟨Inv, μ, hv0, hs⟩ := h
  have key : ∀ (n9 : Nat) (y4 : Int64) (y6 : Int32), μ y4 y6 < n9 → Inv y4 y6 → zz_Go p l e ({ frames := 4, cells := 0, slots := 0, locals := 100 } : Room) s m args below meth c 0 0 (MQ below (zz_Qv D ca zz_dM A a P) args s 0 0 A) D ca zz_dM A 8 22 a [] [(0, .ref (a 0)), (1, .ref (a k1)), (2, .int x2), (3, .int x3), (4, .long y4), (6, .int y6)] I L := by
    intro n9
    induction n9 with
    | zero => intro y4 y6 hn; exact absurd hn (Nat.not_lt_zero _)
    | succ n9 ih =>
      intro y4 y6 hn hi
      exact zq_X8_layFrom_22b (K22 := (fun z4 z6 => Inv z4 z6 ∧ μ z4 z6 < μ y4 y6)) X hA hk1 hK4 hK10 (fun z4 z6 hz => ih z4 z6 (Nat.lt_of_lt_of_le hz.2 (Nat.le_of_lt_succ hn)) hz.1) (hs y4 y6 hi)
  exact key _ x4 x6 (Nat.lt_succ_self _) hv0
def zp_X8_layFrom_10b (K4 : Int32 → zz_I → zz_L → Prop) (K10 : Int32 → zz_I → zz_L → Prop) (P : zz_I → zz_L → Prop) (k1 : Nat) (x2 : Int32) (x3 : Int32) (I : zz_I) (L : zz_L) : Prop := ((8 : Int32) < x3 → ∀ v117 : Int32, v117 = x2 + (-1 : Int32) → (K4 v117 I L)) ∧ (¬ (8 : Int32) < x3 → zp_X8_layFrom_22 K4 K10 P k1 x2 x3 (0 : Int64) (0 : Int32) I L)
set_option maxHeartbeats 4000000 in
set_option maxRecDepth 100000 in
theorem zq_X8_layFrom_10b {p : Program} {l : Launch} {e : Env} {s : State} {m : MethodId} {args : Array Value} {below : List Frame} {meth : Method} {c : Code} {D : va_G} {ca : Nat → ClassId} {A : Nat → Prop} {a : Nat → Nat} {K4 : Int32 → zz_I → zz_L → Prop} {K10 : Int32 → zz_I → zz_L → Prop} {P : zz_I → zz_L → Prop} {I : zz_I} {L : zz_L} {k1 : Nat} {x2 : Int32} {x3 : Int32} (X : zz_X p s m meth c cX8_layFrom RX8 none 8) (hA : ∀ q, s.heap.size ≤ q → A q) (hk1 : zz_dM[k1]? = some (.inl (0, 43))) (hK4 : ∀ (y2 : Int32) (I8 : zz_I) (L8 : zz_L), K4 y2 I8 L8 → zz_Go p l e ({ frames := 4, cells := 0, slots := 0, locals := 100 } : Room) s m args below meth c 0 0 (MQ below (zz_Qv D ca zz_dM A a P) args s 0 0 A) D ca zz_dM A 8 4 a [] [(0, .ref (a 0)), (1, .ref (a k1)), (2, .int y2)] I8 L8) (hK10 : ∀ (y3 : Int32) (I8 : zz_I) (L8 : zz_L), K10 y3 I8 L8 → zz_Go p l e ({ frames := 4, cells := 0, slots := 0, locals := 100 } : Room) s m args below meth c 0 0 (MQ below (zz_Qv D ca zz_dM A a P) args s 0 0 A) D ca zz_dM A 8 10 a [] [(0, .ref (a 0)), (1, .ref (a k1)), (2, .int x2), (3, .int y3)] I8 L8) (h : zp_X8_layFrom_10b K4 K10 P k1 x2 x3 I L) : zz_Go p l e ({ frames := 4, cells := 0, slots := 0, locals := 100 } : Room) s m args below meth c 0 0 (MQ below (zz_Qv D ca zz_dM A a P) args s 0 0 A) D ca zz_dM A 8 10 a [] [(0, .ref (a 0)), (1, .ref (a k1)), (2, .int x2), (3, .int x3)] I L := by
  obtain ⟨hx, hb, hml, hown, zw, hr, hlocks⟩ := id X
  intro H locs ls hB hl
  unfold zp_X8_layFrom_10b at h
  refine lv_iload_n hx hb dX8_layFrom_10 rfl (lv_at hl 3 rfl) ?_
  refine lv_bipush (v := (8 : Int32)) hx hb dX8_layFrom_11 (by decide) ?_
  refine lv_icmp_gt (tgt := 117) hx hb dX8_layFrom_13 (by decide) (fun c13 => ?_) (fun c13 => ?_)
  · have h := h.1 c13
    obtain ⟨v117, ev117⟩ : ∃ z : Int32, z = x2 + (-1 : Int32) := ⟨_, rfl⟩
    have h := h v117 ev117
    refine lv_iinc (v := v117) (lv' := [(2, .int v117), (0, .ref (a 0)), (1, .ref (a k1)), (3, .int x3)]) hx hb dX8_layFrom_117 hl (k := 2) rfl (by rw [ev117]; rfl) (by decide) rfl (fun ls hl => ?_)
    refine lv_goto (tgt := 4) hx hb dX8_layFrom_120 (by decide) ?_
    exact hK4 _ _ _ h H locs ls hB (lv_sub hl [1, 2, 0] rfl)
  · have h := h.2 c13
    refine lv_lconst (v := (0 : Int64)) hx hb dX8_layFrom_16 (by decide) ?_
    refine lv_lstore (lv' := [(4, .long (0 : Int64)), (0, .ref (a 0)), (1, .ref (a k1)), (2, .int x2), (3, .int x3)]) hx hb dX8_layFrom_17 hl (by decide) rfl (fun ls hl => ?_)
    refine lv_iconst (v := (0 : Int32)) hx hb dX8_layFrom_19 (by decide) ?_
    refine lv_istore (lv' := [(6, .int (0 : Int32)), (4, .long (0 : Int64)), (0, .ref (a 0)), (1, .ref (a k1)), (2, .int x2), (3, .int x3)]) hx hb dX8_layFrom_20 hl (by decide) rfl (fun ls hl => ?_)
    exact zq_X8_layFrom_22 X hA hk1 hK4 hK10 h H locs ls hB (lv_sub hl [2, 3, 4, 5, 1, 0] rfl)
def zp_X8_layFrom_10 (K4 : Int32 → zz_I → zz_L → Prop) (P : zz_I → zz_L → Prop) (k1 : Nat) (x2 : Int32) (x3 : Int32) (I : zz_I) (L : zz_L) : Prop := ∃ (Inv : Int32 → zz_I → zz_L → Prop) (μ : Int32 → zz_I → zz_L → Nat), Inv x3 I L ∧ ∀ (y3 : Int32) (I8 : zz_I) (L8 : zz_L), Inv y3 I8 L8 → zp_X8_layFrom_10b K4 (fun z3 I7 L7 => Inv z3 I7 L7 ∧ μ z3 I7 L7 < μ y3 I8 L8) P k1 x2 y3 I8 L8
set_option maxHeartbeats 4000000 in
set_option maxRecDepth 100000 in
theorem zq_X8_layFrom_10 {p : Program} {l : Launch} {e : Env} {s : State} {m : MethodId} {args : Array Value} {below : List Frame} {meth : Method} {c : Code} {D : va_G} {ca : Nat → ClassId} {A : Nat → Prop} {a : Nat → Nat} {K4 : Int32 → zz_I → zz_L → Prop} {P : zz_I → zz_L → Prop} {I : zz_I} {L : zz_L} {k1 : Nat} {x2 : Int32} {x3 : Int32} (X : zz_X p s m meth c cX8_layFrom RX8 none 8) (hA : ∀ q, s.heap.size ≤ q → A q) (hk1 : zz_dM[k1]? = some (.inl (0, 43))) (hK4 : ∀ (y2 : Int32) (I8 : zz_I) (L8 : zz_L), K4 y2 I8 L8 → zz_Go p l e ({ frames := 4, cells := 0, slots := 0, locals := 100 } : Room) s m args below meth c 0 0 (MQ below (zz_Qv D ca zz_dM A a P) args s 0 0 A) D ca zz_dM A 8 4 a [] [(0, .ref (a 0)), (1, .ref (a k1)), (2, .int y2)] I8 L8) (h : zp_X8_layFrom_10 K4 P k1 x2 x3 I L) : zz_Go p l e ({ frames := 4, cells := 0, slots := 0, locals := 100 } : Room) s m args below meth c 0 0 (MQ below (zz_Qv D ca zz_dM A a P) args s 0 0 A) D ca zz_dM A 8 10 a [] [(0, .ref (a 0)), (1, .ref (a k1)), (2, .int x2), (3, .int x3)] I L := by
  unfold zp_X8_layFrom_10 at h
  obtain ⟨Inv, μ, hv0, hs⟩ := h
  have key : ∀ (n9 : Nat) (y3 : Int32) (I8 : zz_I) (L8 : zz_L), μ y3 I8 L8 < n9 → Inv y3 I8 L8 → zz_Go p l e ({ frames := 4, cells := 0, slots := 0, locals := 100 } : Room) s m args below meth c 0 0 (MQ below (zz_Qv D ca zz_dM A a P) args s 0 0 A) D ca zz_dM A 8 10 a [] [(0, .ref (a 0)), (1, .ref (a k1)), (2, .int x2), (3, .int y3)] I8 L8 := by
    intro n9
    induction n9 with
    | zero => intro y3 I8 L8 hn; exact absurd hn (Nat.not_lt_zero _)
    | succ n9 ih =>
      intro y3 I8 L8 hn hi
      exact zq_X8_layFrom_10b (K10 := (fun z3 I7 L7 => Inv z3 I7 L7 ∧ μ z3 I7 L7 < μ y3 I8 L8)) X hA hk1 hK4 (fun z3 I7 L7 hz => ih z3 I7 L7 (Nat.lt_of_lt_of_le hz.2 (Nat.le_of_lt_succ hn)) hz.1) (hs y3 I8 L8 hi)
  exact key _ x3 I L (Nat.lt_succ_self _) hv0
def zp_X8_layFrom_4b (K4 : Int32 → zz_I → zz_L → Prop) (P : zz_I → zz_L → Prop) (k1 : Nat) (x2 : Int32) (I : zz_I) (L : zz_L) : Prop := (x2 < 0 → P I L) ∧ (¬ x2 < 0 → zp_X8_layFrom_10 K4 P k1 x2 (0 : Int32) I L)
set_option maxHeartbeats 4000000 in
set_option maxRecDepth 100000 in
theorem zq_X8_layFrom_4b {p : Program} {l : Launch} {e : Env} {s : State} {m : MethodId} {args : Array Value} {below : List Frame} {meth : Method} {c : Code} {D : va_G} {ca : Nat → ClassId} {A : Nat → Prop} {a : Nat → Nat} {K4 : Int32 → zz_I → zz_L → Prop} {P : zz_I → zz_L → Prop} {I : zz_I} {L : zz_L} {k1 : Nat} {x2 : Int32} (X : zz_X p s m meth c cX8_layFrom RX8 none 8) (hA : ∀ q, s.heap.size ≤ q → A q) (hk1 : zz_dM[k1]? = some (.inl (0, 43))) (hK4 : ∀ (y2 : Int32) (I8 : zz_I) (L8 : zz_L), K4 y2 I8 L8 → zz_Go p l e ({ frames := 4, cells := 0, slots := 0, locals := 100 } : Room) s m args below meth c 0 0 (MQ below (zz_Qv D ca zz_dM A a P) args s 0 0 A) D ca zz_dM A 8 4 a [] [(0, .ref (a 0)), (1, .ref (a k1)), (2, .int y2)] I8 L8) (h : zp_X8_layFrom_4b K4 P k1 x2 I L) : zz_Go p l e ({ frames := 4, cells := 0, slots := 0, locals := 100 } : Room) s m args below meth c 0 0 (MQ below (zz_Qv D ca zz_dM A a P) args s 0 0 A) D ca zz_dM A 8 4 a [] [(0, .ref (a 0)), (1, .ref (a k1)), (2, .int x2)] I L := by
  obtain ⟨hx, hb, hml, hown, zw, hr, hlocks⟩ := id X
  intro H locs ls hB hl
  unfold zp_X8_layFrom_4b at h
  refine lv_iload_n hx hb dX8_layFrom_4 rfl (lv_at hl 2 rfl) ?_
  refine lv_if_lt (tgt := 123) hx hb dX8_layFrom_5 (by decide) (fun c5 => ?_) (fun c5 => ?_)
  · have h := h.1 c5
    exact zz_vret hx hb hr hlocks hB h dX8_layFrom_123
  · have h := h.2 c5
    refine lv_iconst (v := (0 : Int32)) hx hb dX8_layFrom_8 (by decide) ?_
    refine lv_istore_n (lv' := [(3, .int (0 : Int32)), (0, .ref (a 0)), (1, .ref (a k1)), (2, .int x2)]) hx hb dX8_layFrom_9 rfl hl (by decide) rfl (fun ls hl => ?_)
    exact zq_X8_layFrom_10 X hA hk1 hK4 h H locs ls hB (lv_sub hl [1, 2, 3, 0] rfl)
def zp_X8_layFrom_4  (P : zz_I → zz_L → Prop) (k1 : Nat) (x2 : Int32) (I : zz_I) (L : zz_L) : Prop := ∃ (Inv : Int32 → zz_I → zz_L → Prop) (μ : Int32 → zz_I → zz_L → Nat), Inv x2 I L ∧ ∀ (y2 : Int32) (I8 : zz_I) (L8 : zz_L), Inv y2 I8 L8 → zp_X8_layFrom_4b  (fun z2 I7 L7 => Inv z2 I7 L7 ∧ μ z2 I7 L7 < μ y2 I8 L8) P k1 y2 I8 L8
set_option maxHeartbeats 4000000 in
set_option maxRecDepth 100000 in
theorem zq_X8_layFrom_4 {p : Program} {l : Launch} {e : Env} {s : State} {m : MethodId} {args : Array Value} {below : List Frame} {meth : Method} {c : Code} {D : va_G} {ca : Nat → ClassId} {A : Nat → Prop} {a : Nat → Nat}  {P : zz_I → zz_L → Prop} {I : zz_I} {L : zz_L} {k1 : Nat} {x2 : Int32} (X : zz_X p s m meth c cX8_layFrom RX8 none 8) (hA : ∀ q, s.heap.size ≤ q → A q) (hk1 : zz_dM[k1]? = some (.inl (0, 43)))  (h : zp_X8_layFrom_4  P k1 x2 I L) : zz_Go p l e ({ frames := 4, cells := 0, slots := 0, locals := 100 } : Room) s m args below meth c 0 0 (MQ below (zz_Qv D ca zz_dM A a P) args s 0 0 A) D ca zz_dM A 8 4 a [] [(0, .ref (a 0)), (1, .ref (a k1)), (2, .int x2)] I L := by
  unfold zp_X8_layFrom_4 at h
  obtain ⟨Inv, μ, hv0, hs⟩ := h
  have key : ∀ (n9 : Nat) (y2 : Int32) (I8 : zz_I) (L8 : zz_L), μ y2 I8 L8 < n9 → Inv y2 I8 L8 → zz_Go p l e ({ frames := 4, cells := 0, slots := 0, locals := 100 } : Room) s m args below meth c 0 0 (MQ below (zz_Qv D ca zz_dM A a P) args s 0 0 A) D ca zz_dM A 8 4 a [] [(0, .ref (a 0)), (1, .ref (a k1)), (2, .int y2)] I8 L8 := by
    intro n9
    induction n9 with
    | zero => intro y2 I8 L8 hn; exact absurd hn (Nat.not_lt_zero _)
    | succ n9 ih =>
      intro y2 I8 L8 hn hi
      exact zq_X8_layFrom_4b (K4 := (fun z2 I7 L7 => Inv z2 I7 L7 ∧ μ z2 I7 L7 < μ y2 I8 L8)) X hA hk1  (fun z2 I7 L7 hz => ih z2 I7 L7 (Nat.lt_of_lt_of_le hz.2 (Nat.le_of_lt_succ hn)) hz.1) (hs y2 I8 L8 hi)
  exact key _ x2 I L (Nat.lt_succ_self _) hv0
def zp_X8_layFrom (k1 : Nat) (P : zz_I → zz_L → Prop) (I : zz_I) (L : zz_L) : Prop := vp_in (0 : Int32) 43 ∧ (∀ v3 : Int32, v3 = I k1 (0 : Int32).toNatClampNeg → (zp_X8_layFrom_4 P k1 v3 I L))
set_option maxHeartbeats 4000000 in
set_option maxRecDepth 100000 in
theorem zq_X8_layFrom {p : Program} {l : Launch} {e : Env} {s : State} {m : MethodId} {args : Array Value} {below : List Frame} {meth : Method} {c : Code} {D : va_G} {ca : Nat → ClassId} {A : Nat → Prop} {a : Nat → Nat}  {P : zz_I → zz_L → Prop} {I : zz_I} {L : zz_L} {k1 : Nat} (X : zz_X p s m meth c cX8_layFrom RX8 none 8) (hA : ∀ q, s.heap.size ≤ q → A q) (hk1 : zz_dM[k1]? = some (.inl (0, 43)))  (h : zp_X8_layFrom k1 P I L) : zz_Go p l e ({ frames := 4, cells := 0, slots := 0, locals := 100 } : Room) s m args below meth c 0 0 (MQ below (zz_Qv D ca zz_dM A a P) args s 0 0 A) D ca zz_dM A 8 0 a [] [(0, .ref (a 0)), (1, .ref (a k1))] I L := by
  obtain ⟨hx, hb, hml, hown, zw, hr, hlocks⟩ := id X
  intro H locs ls hB hl
  unfold zp_X8_layFrom at h
  refine lv_aload_n hx hb dX8_layFrom_0 rfl (lv_at hl 1 rfl) ?_
  refine lv_iconst (v := (0 : Int32)) hx hb dX8_layFrom_1 (by decide) ?_
  obtain ⟨hi2, h⟩ := h
  refine zz_iald hx hb hB hk1 hi2 dX8_layFrom_2 ?_
  refine lv_topi (fun v3 ev3 => ?_)
  have h := h v3 ev3
  refine lv_istore_n (lv' := [(2, .int v3), (0, .ref (a 0)), (1, .ref (a k1))]) hx hb dX8_layFrom_3 rfl hl (by decide) rfl (fun ls hl => ?_)
  exact zq_X8_layFrom_4 X hA hk1 h H locs ls hB (lv_sub hl [1, 2, 0] rfl)
theorem zc_X8_layFrom (l : Launch) (D : va_G) (ca : Nat → ClassId) (a : Nat → Nat) (I : zz_I) (L : zz_L) (sz : Nat) {k1 : Nat} {P : zz_I → zz_L → Prop} (hk1 : zz_dM[k1]? = some (.inl (0, 43))) (h : zp_X8_layFrom k1 P I L) : Met l yX8_layFrom [.code yX8_layFrom cX8_layFrom 8 none] ({ frames := 4, cells := 0, slots := 0, locals := 100 } : Room) (zz_Pre D ca zz_dM [.ref (a 0), .ref (a k1)] a I L sz) (zz_Qv D ca zz_dM (zz_A ca zz_dM a I L sz) a P) 0 0 (zz_A ca zz_dM a I L sz) :=
  zz_start (by decide) (Nat.le_of_ble_eq_true rfl) (fun p e s m below meth c X hsz hA => zq_X8_layFrom X hA hk1 h)
def zp_X8_all (k1 : Nat) (P : Int64 → zz_I → zz_L → Prop) (I : zz_I) (L : zz_L) : Prop := zp_X8_layFrom k1 (fun I2 L2 => vp_in (8 : Int32) 225 ∧ (P (L2 23 (8 : Int32).toNatClampNeg) I2 L2)) I L
set_option maxHeartbeats 4000000 in
set_option maxRecDepth 100000 in
theorem zq_X8_all {p : Program} {l : Launch} {e : Env} {s : State} {m : MethodId} {args : Array Value} {below : List Frame} {meth : Method} {c : Code} {D : va_G} {ca : Nat → ClassId} {A : Nat → Prop} {a : Nat → Nat}  {P : Int64 → zz_I → zz_L → Prop} {I : zz_I} {L : zz_L} {k1 : Nat} (X : zz_X p s m meth c cX8_all RX8 (some .long) 2) (hA : ∀ q, s.heap.size ≤ q → A q) (hk1 : zz_dM[k1]? = some (.inl (0, 43)))  (h : zp_X8_all k1 P I L) : zz_Go p l e ({ frames := 5, cells := 0, slots := 0, locals := 127 } : Room) s m args below meth c 0 0 (MQ below (zz_Ql D ca zz_dM A a P) args s 0 0 A) D ca zz_dM A 2 0 a [] [(0, .ref (a 0)), (1, .ref (a k1))] I L := by
  obtain ⟨hx, hb, hml, hown, zw, hr, hlocks⟩ := id X
  intro H locs ls hB hl
  unfold zp_X8_all at h
  refine lv_aload_n hx hb dX8_all_0 rfl (lv_at hl 0 rfl) ?_
  refine lv_aload_n hx hb dX8_all_1 rfl (lv_at hl 1 rfl) ?_
  refine zz_gov hB hA (zz_runV (As := [.ref (a k1)]) (rest := []) hx hb hml hown zw hB zM_X8_203 (zc_X8_layFrom l D ca a I L H.size hk1 h) zdM_0 rfl rfl hl.1 rfl (Nat.le_of_ble_eq_true rfl) rfl rfl ⟨Nat.le_of_ble_eq_true rfl, Nat.le_of_ble_eq_true rfl⟩ dX8_all_2 ⟨Nat.le_of_ble_eq_true rfl, Nat.le_of_ble_eq_true rfl⟩) (fun I2 L2 H locs h hB => ?_)
  refine lv_aload_n hx hb dX8_all_5 rfl (lv_at hl 0 rfl) ?_
  refine zz_getr (k' := 23) hx hb hown zw hB zF_X8_78 zdM_0 rfl rfl dX8_all_6 ?_
  refine lv_bipush (v := (8 : Int32)) hx hb dX8_all_9 (by decide) ?_
  obtain ⟨hi11, h⟩ := h
  refine zz_lald hx hb hB zdM_23 hi11 dX8_all_11 ?_
  exact zz_lret hx hb hr hlocks hB h dX8_all_12
theorem zc_X8_all (l : Launch) (D : va_G) (ca : Nat → ClassId) (a : Nat → Nat) (I : zz_I) (L : zz_L) (sz : Nat) {k1 : Nat} {P : Int64 → zz_I → zz_L → Prop} (hk1 : zz_dM[k1]? = some (.inl (0, 43))) (h : zp_X8_all k1 P I L) : Met l yX8_all [.code yX8_all cX8_all 2 (some .long)] ({ frames := 5, cells := 0, slots := 0, locals := 127 } : Room) (zz_Pre D ca zz_dM [.ref (a 0), .ref (a k1)] a I L sz) (zz_Ql D ca zz_dM (zz_A ca zz_dM a I L sz) a P) 0 0 (zz_A ca zz_dM a I L sz) :=
  zz_start (by decide) (Nat.le_of_ble_eq_true rfl) (fun p e s m below meth c X hsz hA => zq_X8_all X hA hk1 h)
def zp_X8_noWord (x1 : Int32) (P : Int32 → Prop) (I : zz_I) (L : zz_L) : Prop := zp_X8_in (x1.toInt64) (0 : Int64) (((I 0 5) - (1 : Int32)).toInt64) (fun r10 => (¬ r10 = 0 → P (0 : Int32)) ∧ (r10 = 0 → P (1 : Int32))) I L
set_option maxHeartbeats 4000000 in
set_option maxRecDepth 100000 in
theorem zq_X8_noWord {p : Program} {l : Launch} {e : Env} {s : State} {m : MethodId} {args : Array Value} {below : List Frame} {meth : Method} {c : Code} {D : va_G} {ca : Nat → ClassId} {A : Nat → Prop} {a : Nat → Nat}  {P : Int32 → Prop} {I : zz_I} {L : zz_L} {x1 : Int32} (X : zz_X p s m meth c cX8_noWord RX8 (some .boolean) 2) (hA : ∀ q, s.heap.size ≤ q → A q)   (h : zp_X8_noWord x1 P I L) : zz_Go p l e ({ frames := 1, cells := 0, slots := 0, locals := 25 } : Room) s m args below meth c 0 0 (MQ below (zz_Qi D ca zz_dM A a (fun r I9 L9 => P r ∧ I9 = I ∧ L9 = L)) args s 0 0 A) D ca zz_dM A 2 0 a [] [(0, .ref (a 0)), (1, .int x1)] I L := by
  obtain ⟨hx, hb, hml, hown, zw, hr, hlocks⟩ := id X
  intro H locs ls hB hl
  unfold zp_X8_noWord at h
  refine lv_iload_n hx hb dX8_noWord_0 rfl (lv_at hl 1 rfl) ?_
  refine lv_i2l (v := x1.toInt64) hx hb dX8_noWord_1 rfl ?_
  refine lv_lconst (v := (0 : Int64)) hx hb dX8_noWord_2 (by decide) ?_
  refine lv_aload_n hx hb dX8_noWord_3 rfl (lv_at hl 0 rfl) ?_
  refine zz_geti hx hb hown zw hB zF_X8_98 zdM_0 rfl dX8_noWord_4 ?_
  refine lv_iconst (v := (1 : Int32)) hx hb dX8_noWord_7 (by decide) ?_
  refine lv_isub hx hb dX8_noWord_8 ?_
  refine lv_i2l (v := ((I 0 5) - (1 : Int32)).toInt64) hx hb dX8_noWord_9 rfl ?_
  refine zz_goip hB hA (zz_runS (As := [.long (x1.toInt64), .long (0 : Int64), .long (((I 0 5) - (1 : Int32)).toInt64)]) (rest := []) hx hb hml hown zw hB zM_X8_101 (zc_X8_in l D ca a I L H.size h) rfl hl.1 rfl (Nat.le_of_ble_eq_true rfl) rfl rfl ⟨Nat.le_of_ble_eq_true rfl, Nat.le_of_ble_eq_true rfl⟩ dX8_noWord_10 ⟨Nat.le_of_ble_eq_true rfl, Nat.le_of_ble_eq_true rfl⟩) (fun r10 H locs h hB => ?_)
  refine lv_if_ne (tgt := 20) hx hb dX8_noWord_13 (by decide) (fun c13 => ?_) (fun c13 => ?_)
  · have h := h.1 c13
    refine lv_iconst (v := (0 : Int32)) hx hb dX8_noWord_20 (by decide) ?_
    exact zz_zret hx hb hr hlocks zz_bool0 hB ⟨h, rfl, rfl⟩ dX8_noWord_21
  · have h := h.2 c13
    refine lv_iconst (v := (1 : Int32)) hx hb dX8_noWord_16 (by decide) ?_
    refine lv_goto (tgt := 21) hx hb dX8_noWord_17 (by decide) ?_
    exact zz_zret hx hb hr hlocks zz_bool1 hB ⟨h, rfl, rfl⟩ dX8_noWord_21
theorem zc_X8_noWord (l : Launch) (D : va_G) (ca : Nat → ClassId) (a : Nat → Nat) (I : zz_I) (L : zz_L) (sz : Nat) {x1 : Int32} {P : Int32 → Prop}  (h : zp_X8_noWord x1 P I L) : Met l yX8_noWord [.code yX8_noWord cX8_noWord 2 (some .boolean)] ({ frames := 1, cells := 0, slots := 0, locals := 25 } : Room) (zz_Pre D ca zz_dM [.ref (a 0), .int x1] a I L sz) (zz_Qi D ca zz_dM (zz_A ca zz_dM a I L sz) a (fun r I9 L9 => P r ∧ I9 = I ∧ L9 = L)) 0 0 (zz_A ca zz_dM a I L sz) :=
  zz_start (by decide) (Nat.le_of_ble_eq_true rfl) (fun p e s m below meth c X hsz hA => zq_X8_noWord X hA  h)
def zp_X8_note_51b (K51 : Int32 → zz_I → zz_L → Prop) (P : zz_I → zz_L → Prop) (x1 : Int32) (I : zz_I) (L : zz_L) : Prop := ((43 : Int32) ≤ x1 → ∀ I90 : zz_I, I90 = zz_up I 0 21 ((I 0 21) + (1 : Int32)) → (P I90 L)) ∧ (¬ (43 : Int32) ≤ x1 → vp_in x1 43 ∧ (vp_in (((43 : Int32) * (I 0 21)) + x1) 602 ∧ (∀ I76 : zz_I, I76 = zz_up I 16 (((43 : Int32) * (I 0 21)) + x1).toNatClampNeg (I 14 x1.toNatClampNeg) → (∀ v77 : Int32, v77 = x1 + (1 : Int32) → (K51 v77 I76 L)))))
set_option maxHeartbeats 4000000 in
set_option maxRecDepth 100000 in
theorem zq_X8_note_51b {p : Program} {l : Launch} {e : Env} {s : State} {m : MethodId} {args : Array Value} {below : List Frame} {meth : Method} {c : Code} {D : va_G} {ca : Nat → ClassId} {A : Nat → Prop} {a : Nat → Nat} {K51 : Int32 → zz_I → zz_L → Prop} {P : zz_I → zz_L → Prop} {I : zz_I} {L : zz_L} {x1 : Int32} (X : zz_X p s m meth c cX8_note RX8 none 2) (hA : ∀ q, s.heap.size ≤ q → A q)  (hK51 : ∀ (y1 : Int32) (I8 : zz_I) (L8 : zz_L), K51 y1 I8 L8 → zz_Go p l e ({ frames := 0, cells := 0, slots := 0, locals := 0 } : Room) s m args below meth c 0 0 (MQ below (zz_Qv D ca zz_dM A a P) args s 0 0 A) D ca zz_dM A 2 51 a [] [(0, .ref (a 0)), (1, .int y1)] I8 L8) (h : zp_X8_note_51b K51 P x1 I L) : zz_Go p l e ({ frames := 0, cells := 0, slots := 0, locals := 0 } : Room) s m args below meth c 0 0 (MQ below (zz_Qv D ca zz_dM A a P) args s 0 0 A) D ca zz_dM A 2 51 a [] [(0, .ref (a 0)), (1, .int x1)] I L := by
  obtain ⟨hx, hb, hml, hown, zw, hr, hlocks⟩ := id X
  intro H locs ls hB hl
  unfold zp_X8_note_51b at h
  refine lv_iload_n hx hb dX8_note_51 rfl (lv_at hl 1 rfl) ?_
  refine lv_bipush (v := (43 : Int32)) hx hb dX8_note_52 (by decide) ?_
  refine lv_icmp_ge (tgt := 83) hx hb dX8_note_54 (by decide) (fun c54 => ?_) (fun c54 => ?_)
  · have h := h.1 c54
    refine lv_aload_n hx hb dX8_note_83 rfl (lv_at hl 0 rfl) ?_
    refine lv_dup hx hb dX8_note_84 rfl ?_
    refine zz_geti hx hb hown zw hB zF_X8_145 zdM_0 rfl dX8_note_85 ?_
    refine lv_iconst (v := (1 : Int32)) hx hb dX8_note_88 (by decide) ?_
    refine lv_iadd hx hb dX8_note_89 ?_
    refine zz_puti hx hb hown zw hB zP_X8_145 zdM_0 rfl dX8_note_90 (fun H locs hB => ?_)
    obtain ⟨I90, eI90⟩ : ∃ z : zz_I, z = zz_up I 0 21 ((I 0 21) + (1 : Int32)) := ⟨_, rfl⟩
    rw [← eI90] at hB
    have h := h I90 eI90
    exact zz_vret hx hb hr hlocks hB h dX8_note_93
  · have h := h.2 c54
    refine lv_aload_n hx hb dX8_note_57 rfl (lv_at hl 0 rfl) ?_
    refine zz_getr (k' := 16) hx hb hown zw hB zF_X8_56 zdM_0 rfl rfl dX8_note_58 ?_
    refine lv_bipush (v := (43 : Int32)) hx hb dX8_note_61 (by decide) ?_
    refine lv_aload_n hx hb dX8_note_63 rfl (lv_at hl 0 rfl) ?_
    refine zz_geti hx hb hown zw hB zF_X8_145 zdM_0 rfl dX8_note_64 ?_
    refine lv_imul hx hb dX8_note_67 ?_
    refine lv_iload_n hx hb dX8_note_68 rfl (lv_at hl 1 rfl) ?_
    refine lv_iadd hx hb dX8_note_69 ?_
    refine lv_aload_n hx hb dX8_note_70 rfl (lv_at hl 0 rfl) ?_
    refine zz_getr (k' := 14) hx hb hown zw hB zF_X8_50 zdM_0 rfl rfl dX8_note_71 ?_
    refine lv_iload_n hx hb dX8_note_74 rfl (lv_at hl 1 rfl) ?_
    obtain ⟨hi75, h⟩ := h
    refine zz_iald hx hb hB zdM_14 hi75 dX8_note_75 ?_
    obtain ⟨hi76, h⟩ := h
    refine zz_iast hx hb hB zdM_16 hi76 dX8_note_76 (fun H locs hB => ?_)
    obtain ⟨I76, eI76⟩ : ∃ z : zz_I, z = zz_up I 16 (((43 : Int32) * (I 0 21)) + x1).toNatClampNeg (I 14 x1.toNatClampNeg) := ⟨_, rfl⟩
    rw [← eI76] at hB
    have h := h I76 eI76
    obtain ⟨v77, ev77⟩ : ∃ z : Int32, z = x1 + (1 : Int32) := ⟨_, rfl⟩
    have h := h v77 ev77
    refine lv_iinc (v := v77) (lv' := [(1, .int v77), (0, .ref (a 0))]) hx hb dX8_note_77 hl (k := 1) rfl (by rw [ev77]; rfl) (by decide) rfl (fun ls hl => ?_)
    refine lv_goto (tgt := 51) hx hb dX8_note_80 (by decide) ?_
    exact hK51 _ _ _ h H locs ls hB (lv_sub hl [1, 0] rfl)
def zp_X8_note_51  (P : zz_I → zz_L → Prop) (x1 : Int32) (I : zz_I) (L : zz_L) : Prop := ∃ (Inv : Int32 → zz_I → zz_L → Prop) (μ : Int32 → zz_I → zz_L → Nat), Inv x1 I L ∧ ∀ (y1 : Int32) (I8 : zz_I) (L8 : zz_L), Inv y1 I8 L8 → zp_X8_note_51b  (fun z1 I7 L7 => Inv z1 I7 L7 ∧ μ z1 I7 L7 < μ y1 I8 L8) P y1 I8 L8
set_option maxHeartbeats 4000000 in
set_option maxRecDepth 100000 in
theorem zq_X8_note_51 {p : Program} {l : Launch} {e : Env} {s : State} {m : MethodId} {args : Array Value} {below : List Frame} {meth : Method} {c : Code} {D : va_G} {ca : Nat → ClassId} {A : Nat → Prop} {a : Nat → Nat}  {P : zz_I → zz_L → Prop} {I : zz_I} {L : zz_L} {x1 : Int32} (X : zz_X p s m meth c cX8_note RX8 none 2) (hA : ∀ q, s.heap.size ≤ q → A q)   (h : zp_X8_note_51  P x1 I L) : zz_Go p l e ({ frames := 0, cells := 0, slots := 0, locals := 0 } : Room) s m args below meth c 0 0 (MQ below (zz_Qv D ca zz_dM A a P) args s 0 0 A) D ca zz_dM A 2 51 a [] [(0, .ref (a 0)), (1, .int x1)] I L := by
  unfold zp_X8_note_51 at h
  obtain ⟨Inv, μ, hv0, hs⟩ := h
  have key : ∀ (n9 : Nat) (y1 : Int32) (I8 : zz_I) (L8 : zz_L), μ y1 I8 L8 < n9 → Inv y1 I8 L8 → zz_Go p l e ({ frames := 0, cells := 0, slots := 0, locals := 0 } : Room) s m args below meth c 0 0 (MQ below (zz_Qv D ca zz_dM A a P) args s 0 0 A) D ca zz_dM A 2 51 a [] [(0, .ref (a 0)), (1, .int y1)] I8 L8 := by
    intro n9
    induction n9 with
    | zero => intro y1 I8 L8 hn; exact absurd hn (Nat.not_lt_zero _)
    | succ n9 ih =>
      intro y1 I8 L8 hn hi
      exact zq_X8_note_51b (K51 := (fun z1 I7 L7 => Inv z1 I7 L7 ∧ μ z1 I7 L7 < μ y1 I8 L8)) X hA   (fun z1 I7 L7 hz => ih z1 I7 L7 (Nat.lt_of_lt_of_le hz.2 (Nat.le_of_lt_succ hn)) hz.1) (hs y1 I8 L8 hi)
  exact key _ x1 I L (Nat.lt_succ_self _) hv0
def zp_X8_note_11b (K11 : Int32 → zz_I → zz_L → Prop) (P : zz_I → zz_L → Prop) (x1 : Int32) (I : zz_I) (L : zz_L) : Prop := ((559 : Int32) ≤ x1 → ∀ I46 : zz_I, I46 = zz_up I 0 21 ((I 0 21) - (1 : Int32)) → (zp_X8_note_51 P (0 : Int32) I46 L)) ∧ (¬ (559 : Int32) ≤ x1 → vp_in (x1 + (43 : Int32)) 602 ∧ (vp_in x1 602 ∧ (∀ I32 : zz_I, I32 = zz_up I 16 x1.toNatClampNeg (I 16 (x1 + (43 : Int32)).toNatClampNeg) → (∀ v33 : Int32, v33 = x1 + (1 : Int32) → (K11 v33 I32 L)))))
set_option maxHeartbeats 4000000 in
set_option maxRecDepth 100000 in
theorem zq_X8_note_11b {p : Program} {l : Launch} {e : Env} {s : State} {m : MethodId} {args : Array Value} {below : List Frame} {meth : Method} {c : Code} {D : va_G} {ca : Nat → ClassId} {A : Nat → Prop} {a : Nat → Nat} {K11 : Int32 → zz_I → zz_L → Prop} {P : zz_I → zz_L → Prop} {I : zz_I} {L : zz_L} {x1 : Int32} (X : zz_X p s m meth c cX8_note RX8 none 2) (hA : ∀ q, s.heap.size ≤ q → A q)  (hK11 : ∀ (y1 : Int32) (I8 : zz_I) (L8 : zz_L), K11 y1 I8 L8 → zz_Go p l e ({ frames := 0, cells := 0, slots := 0, locals := 0 } : Room) s m args below meth c 0 0 (MQ below (zz_Qv D ca zz_dM A a P) args s 0 0 A) D ca zz_dM A 2 11 a [] [(0, .ref (a 0)), (1, .int y1)] I8 L8) (h : zp_X8_note_11b K11 P x1 I L) : zz_Go p l e ({ frames := 0, cells := 0, slots := 0, locals := 0 } : Room) s m args below meth c 0 0 (MQ below (zz_Qv D ca zz_dM A a P) args s 0 0 A) D ca zz_dM A 2 11 a [] [(0, .ref (a 0)), (1, .int x1)] I L := by
  obtain ⟨hx, hb, hml, hown, zw, hr, hlocks⟩ := id X
  intro H locs ls hB hl
  unfold zp_X8_note_11b at h
  refine lv_iload_n hx hb dX8_note_11 rfl (lv_at hl 1 rfl) ?_
  refine lv_sipush (v := (559 : Int32)) hx hb dX8_note_12 (by decide) ?_
  refine lv_icmp_ge (tgt := 39) hx hb dX8_note_15 (by decide) (fun c15 => ?_) (fun c15 => ?_)
  · have h := h.1 c15
    refine lv_aload_n hx hb dX8_note_39 rfl (lv_at hl 0 rfl) ?_
    refine lv_dup hx hb dX8_note_40 rfl ?_
    refine zz_geti hx hb hown zw hB zF_X8_145 zdM_0 rfl dX8_note_41 ?_
    refine lv_iconst (v := (1 : Int32)) hx hb dX8_note_44 (by decide) ?_
    refine lv_isub hx hb dX8_note_45 ?_
    refine zz_puti hx hb hown zw hB zP_X8_145 zdM_0 rfl dX8_note_46 (fun H locs hB => ?_)
    obtain ⟨I46, eI46⟩ : ∃ z : zz_I, z = zz_up I 0 21 ((I 0 21) - (1 : Int32)) := ⟨_, rfl⟩
    rw [← eI46] at hB
    have h := h I46 eI46
    refine lv_iconst (v := (0 : Int32)) hx hb dX8_note_49 (by decide) ?_
    refine lv_istore_n (lv' := [(1, .int (0 : Int32)), (0, .ref (a 0))]) hx hb dX8_note_50 rfl hl (by decide) rfl (fun ls hl => ?_)
    exact zq_X8_note_51 X hA  h H locs ls hB (lv_sub hl [1, 0] rfl)
  · have h := h.2 c15
    refine lv_aload_n hx hb dX8_note_18 rfl (lv_at hl 0 rfl) ?_
    refine zz_getr (k' := 16) hx hb hown zw hB zF_X8_56 zdM_0 rfl rfl dX8_note_19 ?_
    refine lv_iload_n hx hb dX8_note_22 rfl (lv_at hl 1 rfl) ?_
    refine lv_aload_n hx hb dX8_note_23 rfl (lv_at hl 0 rfl) ?_
    refine zz_getr (k' := 16) hx hb hown zw hB zF_X8_56 zdM_0 rfl rfl dX8_note_24 ?_
    refine lv_iload_n hx hb dX8_note_27 rfl (lv_at hl 1 rfl) ?_
    refine lv_bipush (v := (43 : Int32)) hx hb dX8_note_28 (by decide) ?_
    refine lv_iadd hx hb dX8_note_30 ?_
    obtain ⟨hi31, h⟩ := h
    refine zz_iald hx hb hB zdM_16 hi31 dX8_note_31 ?_
    obtain ⟨hi32, h⟩ := h
    refine zz_iast hx hb hB zdM_16 hi32 dX8_note_32 (fun H locs hB => ?_)
    obtain ⟨I32, eI32⟩ : ∃ z : zz_I, z = zz_up I 16 x1.toNatClampNeg (I 16 (x1 + (43 : Int32)).toNatClampNeg) := ⟨_, rfl⟩
    rw [← eI32] at hB
    have h := h I32 eI32
    obtain ⟨v33, ev33⟩ : ∃ z : Int32, z = x1 + (1 : Int32) := ⟨_, rfl⟩
    have h := h v33 ev33
    refine lv_iinc (v := v33) (lv' := [(1, .int v33), (0, .ref (a 0))]) hx hb dX8_note_33 hl (k := 1) rfl (by rw [ev33]; rfl) (by decide) rfl (fun ls hl => ?_)
    refine lv_goto (tgt := 11) hx hb dX8_note_36 (by decide) ?_
    exact hK11 _ _ _ h H locs ls hB (lv_sub hl [1, 0] rfl)
def zp_X8_note_11  (P : zz_I → zz_L → Prop) (x1 : Int32) (I : zz_I) (L : zz_L) : Prop := ∃ (Inv : Int32 → zz_I → zz_L → Prop) (μ : Int32 → zz_I → zz_L → Nat), Inv x1 I L ∧ ∀ (y1 : Int32) (I8 : zz_I) (L8 : zz_L), Inv y1 I8 L8 → zp_X8_note_11b  (fun z1 I7 L7 => Inv z1 I7 L7 ∧ μ z1 I7 L7 < μ y1 I8 L8) P y1 I8 L8
set_option maxHeartbeats 4000000 in
set_option maxRecDepth 100000 in
theorem zq_X8_note_11 {p : Program} {l : Launch} {e : Env} {s : State} {m : MethodId} {args : Array Value} {below : List Frame} {meth : Method} {c : Code} {D : va_G} {ca : Nat → ClassId} {A : Nat → Prop} {a : Nat → Nat}  {P : zz_I → zz_L → Prop} {I : zz_I} {L : zz_L} {x1 : Int32} (X : zz_X p s m meth c cX8_note RX8 none 2) (hA : ∀ q, s.heap.size ≤ q → A q)   (h : zp_X8_note_11  P x1 I L) : zz_Go p l e ({ frames := 0, cells := 0, slots := 0, locals := 0 } : Room) s m args below meth c 0 0 (MQ below (zz_Qv D ca zz_dM A a P) args s 0 0 A) D ca zz_dM A 2 11 a [] [(0, .ref (a 0)), (1, .int x1)] I L := by
  unfold zp_X8_note_11 at h
  obtain ⟨Inv, μ, hv0, hs⟩ := h
  have key : ∀ (n9 : Nat) (y1 : Int32) (I8 : zz_I) (L8 : zz_L), μ y1 I8 L8 < n9 → Inv y1 I8 L8 → zz_Go p l e ({ frames := 0, cells := 0, slots := 0, locals := 0 } : Room) s m args below meth c 0 0 (MQ below (zz_Qv D ca zz_dM A a P) args s 0 0 A) D ca zz_dM A 2 11 a [] [(0, .ref (a 0)), (1, .int y1)] I8 L8 := by
    intro n9
    induction n9 with
    | zero => intro y1 I8 L8 hn; exact absurd hn (Nat.not_lt_zero _)
    | succ n9 ih =>
      intro y1 I8 L8 hn hi
      exact zq_X8_note_11b (K11 := (fun z1 I7 L7 => Inv z1 I7 L7 ∧ μ z1 I7 L7 < μ y1 I8 L8)) X hA   (fun z1 I7 L7 hz => ih z1 I7 L7 (Nat.lt_of_lt_of_le hz.2 (Nat.le_of_lt_succ hn)) hz.1) (hs y1 I8 L8 hi)
  exact key _ x1 I L (Nat.lt_succ_self _) hv0
def zp_X8_note  (P : zz_I → zz_L → Prop) (I : zz_I) (L : zz_L) : Prop := (¬ (I 0 21) = (14 : Int32) → zp_X8_note_51 P (0 : Int32) I L) ∧ ((I 0 21) = (14 : Int32) → zp_X8_note_11 P (0 : Int32) I L)
set_option maxHeartbeats 4000000 in
set_option maxRecDepth 100000 in
theorem zq_X8_note {p : Program} {l : Launch} {e : Env} {s : State} {m : MethodId} {args : Array Value} {below : List Frame} {meth : Method} {c : Code} {D : va_G} {ca : Nat → ClassId} {A : Nat → Prop} {a : Nat → Nat}  {P : zz_I → zz_L → Prop} {I : zz_I} {L : zz_L}  (X : zz_X p s m meth c cX8_note RX8 none 2) (hA : ∀ q, s.heap.size ≤ q → A q)   (h : zp_X8_note  P I L) : zz_Go p l e ({ frames := 0, cells := 0, slots := 0, locals := 0 } : Room) s m args below meth c 0 0 (MQ below (zz_Qv D ca zz_dM A a P) args s 0 0 A) D ca zz_dM A 2 0 a [] [(0, .ref (a 0))] I L := by
  obtain ⟨hx, hb, hml, hown, zw, hr, hlocks⟩ := id X
  intro H locs ls hB hl
  unfold zp_X8_note at h
  refine lv_aload_n hx hb dX8_note_0 rfl (lv_at hl 0 rfl) ?_
  refine zz_geti hx hb hown zw hB zF_X8_145 zdM_0 rfl dX8_note_1 ?_
  refine lv_bipush (v := (14 : Int32)) hx hb dX8_note_4 (by decide) ?_
  refine lv_icmp_ne (tgt := 49) hx hb dX8_note_6 (by decide) (fun c6 => ?_) (fun c6 => ?_)
  · have h := h.1 c6
    refine lv_iconst (v := (0 : Int32)) hx hb dX8_note_49 (by decide) ?_
    refine lv_istore_n (lv' := [(1, .int (0 : Int32)), (0, .ref (a 0))]) hx hb dX8_note_50 rfl hl (by decide) rfl (fun ls hl => ?_)
    exact zq_X8_note_51 X hA  h H locs ls hB (lv_sub hl [1, 0] rfl)
  · have h := h.2 c6
    refine lv_iconst (v := (0 : Int32)) hx hb dX8_note_9 (by decide) ?_
    refine lv_istore_n (lv' := [(1, .int (0 : Int32)), (0, .ref (a 0))]) hx hb dX8_note_10 rfl hl (by decide) rfl (fun ls hl => ?_)
    exact zq_X8_note_11 X hA  h H locs ls hB (lv_sub hl [1, 0] rfl)
theorem zc_X8_note (l : Launch) (D : va_G) (ca : Nat → ClassId) (a : Nat → Nat) (I : zz_I) (L : zz_L) (sz : Nat)  {P : zz_I → zz_L → Prop}  (h : zp_X8_note  P I L) : Met l yX8_note [.code yX8_note cX8_note 2 none] ({ frames := 0, cells := 0, slots := 0, locals := 0 } : Room) (zz_Pre D ca zz_dM [.ref (a 0)] a I L sz) (zz_Qv D ca zz_dM (zz_A ca zz_dM a I L sz) a P) 0 0 (zz_A ca zz_dM a I L sz) :=
  zz_start (by decide) (Nat.le_of_ble_eq_true rfl) (fun p e s m below meth c X hsz hA => zq_X8_note X hA  h)
def zp_X8_bar (x1 : Int32) (P : Int32 → zz_I → zz_L → Prop) (I : zz_I) (L : zz_L) : Prop := ∀ I2 : zz_I, I2 = zz_up I 0 0 (0 : Int32) → (zp_X8_noWord x1 (fun r7 => (r7 = 0 → zp_X8_note  (fun I16 L16 => vp_in (1 : Int32) 43 ∧ (vp_in (1 : Int32) 43 ∧ (∀ I30 : zz_I, I30 = zz_up I16 14 (1 : Int32).toNatClampNeg ((I16 14 (1 : Int32).toNatClampNeg) ^^^ ((1 : Int32) <<< (x1 &&& 31))) → (vp_in (1 : Int32) 43 ∧ (P (((I30 14 (1 : Int32).toNatClampNeg) >>> (x1 &&& 31)) &&& (1 : Int32)) I30 L16))))) I2 L) ∧ (¬ r7 = 0 → P (-1 : Int32) I2 L)) I2 L)
set_option maxHeartbeats 4000000 in
set_option maxRecDepth 100000 in
theorem zq_X8_bar {p : Program} {l : Launch} {e : Env} {s : State} {m : MethodId} {args : Array Value} {below : List Frame} {meth : Method} {c : Code} {D : va_G} {ca : Nat → ClassId} {A : Nat → Prop} {a : Nat → Nat}  {P : Int32 → zz_I → zz_L → Prop} {I : zz_I} {L : zz_L} {x1 : Int32} (X : zz_X p s m meth c cX8_bar RX8 (some .int) 2) (hA : ∀ q, s.heap.size ≤ q → A q)   (h : zp_X8_bar x1 P I L) : zz_Go p l e ({ frames := 2, cells := 0, slots := 0, locals := 46 } : Room) s m args below meth c 0 0 (MQ below (zz_Qi D ca zz_dM A a P) args s 0 0 A) D ca zz_dM A 2 0 a [] [(0, .ref (a 0)), (1, .int x1)] I L := by
  obtain ⟨hx, hb, hml, hown, zw, hr, hlocks⟩ := id X
  intro H locs ls hB hl
  unfold zp_X8_bar at h
  refine lv_aload_n hx hb dX8_bar_0 rfl (lv_at hl 0 rfl) ?_
  refine lv_iconst (v := (0 : Int32)) hx hb dX8_bar_1 (by decide) ?_
  refine zz_puti hx hb hown zw hB zP_X8_94 zdM_0 rfl dX8_bar_2 (fun H locs hB => ?_)
  obtain ⟨I2, eI2⟩ : ∃ z : zz_I, z = zz_up I 0 0 (0 : Int32) := ⟨_, rfl⟩
  rw [← eI2] at hB
  have h := h I2 eI2
  refine lv_aload_n hx hb dX8_bar_5 rfl (lv_at hl 0 rfl) ?_
  refine lv_iload_n hx hb dX8_bar_6 rfl (lv_at hl 1 rfl) ?_
  refine zz_goip hB hA (zz_runV (As := [.int x1]) (rest := []) hx hb hml hown zw hB zM_X8_148 (zc_X8_noWord l D ca a I2 L H.size h) zdM_0 rfl rfl hl.1 rfl (Nat.le_of_ble_eq_true rfl) rfl rfl ⟨Nat.le_of_ble_eq_true rfl, Nat.le_of_ble_eq_true rfl⟩ dX8_bar_7 ⟨Nat.le_of_ble_eq_true rfl, Nat.le_of_ble_eq_true rfl⟩) (fun r7 H locs h hB => ?_)
  refine lv_if_eq (tgt := 15) hx hb dX8_bar_10 (by decide) (fun c10 => ?_) (fun c10 => ?_)
  · have h := h.1 c10
    refine lv_aload_n hx hb dX8_bar_15 rfl (lv_at hl 0 rfl) ?_
    refine zz_gov hB hA (zz_runV (As := []) (rest := []) hx hb hml hown zw hB zM_X8_167 (zc_X8_note l D ca a I2 L H.size h) zdM_0 rfl rfl hl.1 rfl (Nat.le_of_ble_eq_true rfl) rfl rfl ⟨Nat.le_of_ble_eq_true rfl, Nat.le_of_ble_eq_true rfl⟩ dX8_bar_16 ⟨Nat.le_of_ble_eq_true rfl, Nat.le_of_ble_eq_true rfl⟩) (fun I16 L16 H locs h hB => ?_)
    refine lv_aload_n hx hb dX8_bar_19 rfl (lv_at hl 0 rfl) ?_
    refine zz_getr (k' := 14) hx hb hown zw hB zF_X8_50 zdM_0 rfl rfl dX8_bar_20 ?_
    refine lv_iconst (v := (1 : Int32)) hx hb dX8_bar_23 (by decide) ?_
    refine lv_dup2_11 hx hb dX8_bar_24 rfl rfl ?_
    obtain ⟨hi25, h⟩ := h
    refine zz_iald hx hb hB zdM_14 hi25 dX8_bar_25 ?_
    refine lv_iconst (v := (1 : Int32)) hx hb dX8_bar_26 (by decide) ?_
    refine lv_iload_n hx hb dX8_bar_27 rfl (lv_at hl 1 rfl) ?_
    refine lv_ishl hx hb dX8_bar_28 ?_
    refine lv_ixor hx hb dX8_bar_29 ?_
    obtain ⟨hi30, h⟩ := h
    refine zz_iast hx hb hB zdM_14 hi30 dX8_bar_30 (fun H locs hB => ?_)
    obtain ⟨I30, eI30⟩ : ∃ z : zz_I, z = zz_up I16 14 (1 : Int32).toNatClampNeg ((I16 14 (1 : Int32).toNatClampNeg) ^^^ ((1 : Int32) <<< (x1 &&& 31))) := ⟨_, rfl⟩
    rw [← eI30] at hB
    have h := h I30 eI30
    refine lv_aload_n hx hb dX8_bar_31 rfl (lv_at hl 0 rfl) ?_
    refine zz_getr (k' := 14) hx hb hown zw hB zF_X8_50 zdM_0 rfl rfl dX8_bar_32 ?_
    refine lv_iconst (v := (1 : Int32)) hx hb dX8_bar_35 (by decide) ?_
    obtain ⟨hi36, h⟩ := h
    refine zz_iald hx hb hB zdM_14 hi36 dX8_bar_36 ?_
    refine lv_iload_n hx hb dX8_bar_37 rfl (lv_at hl 1 rfl) ?_
    refine lv_ishr hx hb dX8_bar_38 ?_
    refine lv_iconst (v := (1 : Int32)) hx hb dX8_bar_39 (by decide) ?_
    refine lv_iand hx hb dX8_bar_40 ?_
    exact zz_iret hx hb hr hlocks hB h dX8_bar_41
  · have h := h.2 c10
    refine lv_iconst (v := (-1 : Int32)) hx hb dX8_bar_13 (by decide) ?_
    exact zz_iret hx hb hr hlocks hB h dX8_bar_14
theorem zc_X8_bar (l : Launch) (D : va_G) (ca : Nat → ClassId) (a : Nat → Nat) (I : zz_I) (L : zz_L) (sz : Nat) {x1 : Int32} {P : Int32 → zz_I → zz_L → Prop}  (h : zp_X8_bar x1 P I L) : Met l yX8_bar [.code yX8_bar cX8_bar 2 (some .int)] ({ frames := 2, cells := 0, slots := 0, locals := 46 } : Room) (zz_Pre D ca zz_dM [.ref (a 0), .int x1] a I L sz) (zz_Qi D ca zz_dM (zz_A ca zz_dM a I L sz) a P) 0 0 (zz_A ca zz_dM a I L sz) :=
  zz_start (by decide) (Nat.le_of_ble_eq_true rfl) (fun p e s m below meth c X hsz hA => zq_X8_bar X hA  h)
def zp_X8_begin_2b (K2 : Int32 → zz_I → zz_L → Prop) (P : zz_I → zz_L → Prop) (k0 : Nat) (x1 : Int32) (I : zz_I) (L : zz_L) : Prop := ((43 : Int32) ≤ x1 → P I L) ∧ (¬ (43 : Int32) ≤ x1 → (x1 < (2 : Int32) → vp_in x1 43 ∧ (∀ I26 : zz_I, I26 = zz_up I k0 x1.toNatClampNeg (0 : Int32) → (∀ v27 : Int32, v27 = x1 + (1 : Int32) → (K2 v27 I26 L)))) ∧ (¬ x1 < (2 : Int32) → ((11 : Int32) ≤ x1 → vp_in x1 43 ∧ (∀ I26 : zz_I, I26 = zz_up I k0 x1.toNatClampNeg (0 : Int32) → (∀ v27 : Int32, v27 = x1 + (1 : Int32) → (K2 v27 I26 L)))) ∧ (¬ (11 : Int32) ≤ x1 → vp_in x1 43 ∧ (∀ I26 : zz_I, I26 = zz_up I k0 x1.toNatClampNeg (1 : Int32) → (∀ v27 : Int32, v27 = x1 + (1 : Int32) → (K2 v27 I26 L))))))
set_option maxHeartbeats 4000000 in
set_option maxRecDepth 100000 in
theorem zq_X8_begin_2b {p : Program} {l : Launch} {e : Env} {s : State} {m : MethodId} {args : Array Value} {below : List Frame} {meth : Method} {c : Code} {D : va_G} {ca : Nat → ClassId} {A : Nat → Prop} {a : Nat → Nat} {K2 : Int32 → zz_I → zz_L → Prop} {P : zz_I → zz_L → Prop} {I : zz_I} {L : zz_L} {k0 : Nat} {x1 : Int32} (X : zz_X p s m meth c cX8_begin RX8 none 2) (hA : ∀ q, s.heap.size ≤ q → A q) (hk0 : zz_dM[k0]? = some (.inl (0, 43))) (hK2 : ∀ (y1 : Int32) (I8 : zz_I) (L8 : zz_L), K2 y1 I8 L8 → zz_Go p l e ({ frames := 0, cells := 0, slots := 0, locals := 0 } : Room) s m args below meth c 0 0 (MQ below (zz_Qv D ca zz_dM A a P) args s 0 0 A) D ca zz_dM A 2 2 a [] [(0, .ref (a k0)), (1, .int y1)] I8 L8) (h : zp_X8_begin_2b K2 P k0 x1 I L) : zz_Go p l e ({ frames := 0, cells := 0, slots := 0, locals := 0 } : Room) s m args below meth c 0 0 (MQ below (zz_Qv D ca zz_dM A a P) args s 0 0 A) D ca zz_dM A 2 2 a [] [(0, .ref (a k0)), (1, .int x1)] I L := by
  obtain ⟨hx, hb, hml, hown, zw, hr, hlocks⟩ := id X
  intro H locs ls hB hl
  unfold zp_X8_begin_2b at h
  refine lv_iload_n hx hb dX8_begin_2 rfl (lv_at hl 1 rfl) ?_
  refine lv_bipush (v := (43 : Int32)) hx hb dX8_begin_3 (by decide) ?_
  refine lv_icmp_ge (tgt := 33) hx hb dX8_begin_5 (by decide) (fun c5 => ?_) (fun c5 => ?_)
  · have h := h.1 c5
    exact zz_vret hx hb hr hlocks hB h dX8_begin_33
  · have h := h.2 c5
    refine lv_aload_n hx hb dX8_begin_8 rfl (lv_at hl 0 rfl) ?_
    refine lv_iload_n hx hb dX8_begin_9 rfl (lv_at hl 1 rfl) ?_
    refine lv_iload_n hx hb dX8_begin_10 rfl (lv_at hl 1 rfl) ?_
    refine lv_iconst (v := (2 : Int32)) hx hb dX8_begin_11 (by decide) ?_
    refine lv_icmp_lt (tgt := 25) hx hb dX8_begin_12 (by decide) (fun c12 => ?_) (fun c12 => ?_)
    · have h := h.1 c12
      refine lv_iconst (v := (0 : Int32)) hx hb dX8_begin_25 (by decide) ?_
      obtain ⟨hi26, h⟩ := h
      refine zz_iast hx hb hB hk0 hi26 dX8_begin_26 (fun H locs hB => ?_)
      obtain ⟨I26, eI26⟩ : ∃ z : zz_I, z = zz_up I k0 x1.toNatClampNeg (0 : Int32) := ⟨_, rfl⟩
      rw [← eI26] at hB
      have h := h I26 eI26
      obtain ⟨v27, ev27⟩ : ∃ z : Int32, z = x1 + (1 : Int32) := ⟨_, rfl⟩
      have h := h v27 ev27
      refine lv_iinc (v := v27) (lv' := [(1, .int v27), (0, .ref (a k0))]) hx hb dX8_begin_27 hl (k := 1) rfl (by rw [ev27]; rfl) (by decide) rfl (fun ls hl => ?_)
      refine lv_goto (tgt := 2) hx hb dX8_begin_30 (by decide) ?_
      exact hK2 _ _ _ h H locs ls hB (lv_sub hl [1, 0] rfl)
    · have h := h.2 c12
      refine lv_iload_n hx hb dX8_begin_15 rfl (lv_at hl 1 rfl) ?_
      refine lv_bipush (v := (11 : Int32)) hx hb dX8_begin_16 (by decide) ?_
      refine lv_icmp_ge (tgt := 25) hx hb dX8_begin_18 (by decide) (fun c18 => ?_) (fun c18 => ?_)
      · have h := h.1 c18
        refine lv_iconst (v := (0 : Int32)) hx hb dX8_begin_25 (by decide) ?_
        obtain ⟨hi26, h⟩ := h
        refine zz_iast hx hb hB hk0 hi26 dX8_begin_26 (fun H locs hB => ?_)
        obtain ⟨I26, eI26⟩ : ∃ z : zz_I, z = zz_up I k0 x1.toNatClampNeg (0 : Int32) := ⟨_, rfl⟩
        rw [← eI26] at hB
        have h := h I26 eI26
        obtain ⟨v27, ev27⟩ : ∃ z : Int32, z = x1 + (1 : Int32) := ⟨_, rfl⟩
        have h := h v27 ev27
        refine lv_iinc (v := v27) (lv' := [(1, .int v27), (0, .ref (a k0))]) hx hb dX8_begin_27 hl (k := 1) rfl (by rw [ev27]; rfl) (by decide) rfl (fun ls hl => ?_)
        refine lv_goto (tgt := 2) hx hb dX8_begin_30 (by decide) ?_
        exact hK2 _ _ _ h H locs ls hB (lv_sub hl [1, 0] rfl)
      · have h := h.2 c18
        refine lv_iconst (v := (1 : Int32)) hx hb dX8_begin_21 (by decide) ?_
        refine lv_goto (tgt := 26) hx hb dX8_begin_22 (by decide) ?_
        obtain ⟨hi26, h⟩ := h
        refine zz_iast hx hb hB hk0 hi26 dX8_begin_26 (fun H locs hB => ?_)
        obtain ⟨I26, eI26⟩ : ∃ z : zz_I, z = zz_up I k0 x1.toNatClampNeg (1 : Int32) := ⟨_, rfl⟩
        rw [← eI26] at hB
        have h := h I26 eI26
        obtain ⟨v27, ev27⟩ : ∃ z : Int32, z = x1 + (1 : Int32) := ⟨_, rfl⟩
        have h := h v27 ev27
        refine lv_iinc (v := v27) (lv' := [(1, .int v27), (0, .ref (a k0))]) hx hb dX8_begin_27 hl (k := 1) rfl (by rw [ev27]; rfl) (by decide) rfl (fun ls hl => ?_)
        refine lv_goto (tgt := 2) hx hb dX8_begin_30 (by decide) ?_
        exact hK2 _ _ _ h H locs ls hB (lv_sub hl [1, 0] rfl)
def zp_X8_begin_2  (P : zz_I → zz_L → Prop) (k0 : Nat) (x1 : Int32) (I : zz_I) (L : zz_L) : Prop := ∃ (Inv : Int32 → zz_I → zz_L → Prop) (μ : Int32 → zz_I → zz_L → Nat), Inv x1 I L ∧ ∀ (y1 : Int32) (I8 : zz_I) (L8 : zz_L), Inv y1 I8 L8 → zp_X8_begin_2b  (fun z1 I7 L7 => Inv z1 I7 L7 ∧ μ z1 I7 L7 < μ y1 I8 L8) P k0 y1 I8 L8
set_option maxHeartbeats 4000000 in
set_option maxRecDepth 100000 in
theorem zq_X8_begin_2 {p : Program} {l : Launch} {e : Env} {s : State} {m : MethodId} {args : Array Value} {below : List Frame} {meth : Method} {c : Code} {D : va_G} {ca : Nat → ClassId} {A : Nat → Prop} {a : Nat → Nat}  {P : zz_I → zz_L → Prop} {I : zz_I} {L : zz_L} {k0 : Nat} {x1 : Int32} (X : zz_X p s m meth c cX8_begin RX8 none 2) (hA : ∀ q, s.heap.size ≤ q → A q) (hk0 : zz_dM[k0]? = some (.inl (0, 43)))  (h : zp_X8_begin_2  P k0 x1 I L) : zz_Go p l e ({ frames := 0, cells := 0, slots := 0, locals := 0 } : Room) s m args below meth c 0 0 (MQ below (zz_Qv D ca zz_dM A a P) args s 0 0 A) D ca zz_dM A 2 2 a [] [(0, .ref (a k0)), (1, .int x1)] I L := by
  unfold zp_X8_begin_2 at h
  obtain ⟨Inv, μ, hv0, hs⟩ := h
  have key : ∀ (n9 : Nat) (y1 : Int32) (I8 : zz_I) (L8 : zz_L), μ y1 I8 L8 < n9 → Inv y1 I8 L8 → zz_Go p l e ({ frames := 0, cells := 0, slots := 0, locals := 0 } : Room) s m args below meth c 0 0 (MQ below (zz_Qv D ca zz_dM A a P) args s 0 0 A) D ca zz_dM A 2 2 a [] [(0, .ref (a k0)), (1, .int y1)] I8 L8 := by
    intro n9
    induction n9 with
    | zero => intro y1 I8 L8 hn; exact absurd hn (Nat.not_lt_zero _)
    | succ n9 ih =>
      intro y1 I8 L8 hn hi
      exact zq_X8_begin_2b (K2 := (fun z1 I7 L7 => Inv z1 I7 L7 ∧ μ z1 I7 L7 < μ y1 I8 L8)) X hA hk0  (fun z1 I7 L7 hz => ih z1 I7 L7 (Nat.lt_of_lt_of_le hz.2 (Nat.le_of_lt_succ hn)) hz.1) (hs y1 I8 L8 hi)
  exact key _ x1 I L (Nat.lt_succ_self _) hv0
def zp_X8_begin (k0 : Nat) (P : zz_I → zz_L → Prop) (I : zz_I) (L : zz_L) : Prop := zp_X8_begin_2 P k0 (0 : Int32) I L
set_option maxHeartbeats 4000000 in
set_option maxRecDepth 100000 in
theorem zq_X8_begin {p : Program} {l : Launch} {e : Env} {s : State} {m : MethodId} {args : Array Value} {below : List Frame} {meth : Method} {c : Code} {D : va_G} {ca : Nat → ClassId} {A : Nat → Prop} {a : Nat → Nat}  {P : zz_I → zz_L → Prop} {I : zz_I} {L : zz_L} {k0 : Nat} (X : zz_X p s m meth c cX8_begin RX8 none 2) (hA : ∀ q, s.heap.size ≤ q → A q) (hk0 : zz_dM[k0]? = some (.inl (0, 43)))  (h : zp_X8_begin k0 P I L) : zz_Go p l e ({ frames := 0, cells := 0, slots := 0, locals := 0 } : Room) s m args below meth c 0 0 (MQ below (zz_Qv D ca zz_dM A a P) args s 0 0 A) D ca zz_dM A 2 0 a [] [(0, .ref (a k0))] I L := by
  obtain ⟨hx, hb, hml, hown, zw, hr, hlocks⟩ := id X
  intro H locs ls hB hl
  unfold zp_X8_begin at h
  refine lv_iconst (v := (0 : Int32)) hx hb dX8_begin_0 (by decide) ?_
  refine lv_istore_n (lv' := [(1, .int (0 : Int32)), (0, .ref (a k0))]) hx hb dX8_begin_1 rfl hl (by decide) rfl (fun ls hl => ?_)
  exact zq_X8_begin_2 X hA hk0 h H locs ls hB (lv_sub hl [1, 0] rfl)
theorem zc_X8_begin (l : Launch) (D : va_G) (ca : Nat → ClassId) (a : Nat → Nat) (I : zz_I) (L : zz_L) (sz : Nat) {k0 : Nat} {P : zz_I → zz_L → Prop} (hk0 : zz_dM[k0]? = some (.inl (0, 43))) (h : zp_X8_begin k0 P I L) : Met l yX8_begin [.code yX8_begin cX8_begin 2 none] ({ frames := 0, cells := 0, slots := 0, locals := 0 } : Room) (zz_Pre D ca zz_dM [.ref (a k0)] a I L sz) (zz_Qv D ca zz_dM (zz_A ca zz_dM a I L sz) a P) 0 0 (zz_A ca zz_dM a I L sz) :=
  zz_start (by decide) (Nat.le_of_ble_eq_true rfl) (fun p e s m below meth c X hsz hA => zq_X8_begin X hA hk0 h)
def zp_X8_noUnit (x1 : Int32) (P : Int32 → Prop) (I : zz_I) (L : zz_L) : Prop := vp_in (0 : Int32) 43 ∧ (zp_X8_in (x1.toInt64) (0 : Int64) (((I 14 (0 : Int32).toNatClampNeg) - (1 : Int32)).toInt64) (fun r12 => (¬ r12 = 0 → P (0 : Int32)) ∧ (r12 = 0 → P (1 : Int32))) I L)
set_option maxHeartbeats 4000000 in
set_option maxRecDepth 100000 in
theorem zq_X8_noUnit {p : Program} {l : Launch} {e : Env} {s : State} {m : MethodId} {args : Array Value} {below : List Frame} {meth : Method} {c : Code} {D : va_G} {ca : Nat → ClassId} {A : Nat → Prop} {a : Nat → Nat}  {P : Int32 → Prop} {I : zz_I} {L : zz_L} {x1 : Int32} (X : zz_X p s m meth c cX8_noUnit RX8 (some .boolean) 2) (hA : ∀ q, s.heap.size ≤ q → A q)   (h : zp_X8_noUnit x1 P I L) : zz_Go p l e ({ frames := 1, cells := 0, slots := 0, locals := 25 } : Room) s m args below meth c 0 0 (MQ below (zz_Qi D ca zz_dM A a (fun r I9 L9 => P r ∧ I9 = I ∧ L9 = L)) args s 0 0 A) D ca zz_dM A 2 0 a [] [(0, .ref (a 0)), (1, .int x1)] I L := by
  obtain ⟨hx, hb, hml, hown, zw, hr, hlocks⟩ := id X
  intro H locs ls hB hl
  unfold zp_X8_noUnit at h
  refine lv_iload_n hx hb dX8_noUnit_0 rfl (lv_at hl 1 rfl) ?_
  refine lv_i2l (v := x1.toInt64) hx hb dX8_noUnit_1 rfl ?_
  refine lv_lconst (v := (0 : Int64)) hx hb dX8_noUnit_2 (by decide) ?_
  refine lv_aload_n hx hb dX8_noUnit_3 rfl (lv_at hl 0 rfl) ?_
  refine zz_getr (k' := 14) hx hb hown zw hB zF_X8_50 zdM_0 rfl rfl dX8_noUnit_4 ?_
  refine lv_iconst (v := (0 : Int32)) hx hb dX8_noUnit_7 (by decide) ?_
  obtain ⟨hi8, h⟩ := h
  refine zz_iald hx hb hB zdM_14 hi8 dX8_noUnit_8 ?_
  refine lv_iconst (v := (1 : Int32)) hx hb dX8_noUnit_9 (by decide) ?_
  refine lv_isub hx hb dX8_noUnit_10 ?_
  refine lv_i2l (v := ((I 14 (0 : Int32).toNatClampNeg) - (1 : Int32)).toInt64) hx hb dX8_noUnit_11 rfl ?_
  refine zz_goip hB hA (zz_runS (As := [.long (x1.toInt64), .long (0 : Int64), .long (((I 14 (0 : Int32).toNatClampNeg) - (1 : Int32)).toInt64)]) (rest := []) hx hb hml hown zw hB zM_X8_101 (zc_X8_in l D ca a I L H.size h) rfl hl.1 rfl (Nat.le_of_ble_eq_true rfl) rfl rfl ⟨Nat.le_of_ble_eq_true rfl, Nat.le_of_ble_eq_true rfl⟩ dX8_noUnit_12 ⟨Nat.le_of_ble_eq_true rfl, Nat.le_of_ble_eq_true rfl⟩) (fun r12 H locs h hB => ?_)
  refine lv_if_ne (tgt := 22) hx hb dX8_noUnit_15 (by decide) (fun c15 => ?_) (fun c15 => ?_)
  · have h := h.1 c15
    refine lv_iconst (v := (0 : Int32)) hx hb dX8_noUnit_22 (by decide) ?_
    exact zz_zret hx hb hr hlocks zz_bool0 hB ⟨h, rfl, rfl⟩ dX8_noUnit_23
  · have h := h.2 c15
    refine lv_iconst (v := (1 : Int32)) hx hb dX8_noUnit_18 (by decide) ?_
    refine lv_goto (tgt := 23) hx hb dX8_noUnit_19 (by decide) ?_
    exact zz_zret hx hb hr hlocks zz_bool1 hB ⟨h, rfl, rfl⟩ dX8_noUnit_23
theorem zc_X8_noUnit (l : Launch) (D : va_G) (ca : Nat → ClassId) (a : Nat → Nat) (I : zz_I) (L : zz_L) (sz : Nat) {x1 : Int32} {P : Int32 → Prop}  (h : zp_X8_noUnit x1 P I L) : Met l yX8_noUnit [.code yX8_noUnit cX8_noUnit 2 (some .boolean)] ({ frames := 1, cells := 0, slots := 0, locals := 25 } : Room) (zz_Pre D ca zz_dM [.ref (a 0), .int x1] a I L sz) (zz_Qi D ca zz_dM (zz_A ca zz_dM a I L sz) a (fun r I9 L9 => P r ∧ I9 = I ∧ L9 = L)) 0 0 (zz_A ca zz_dM a I L sz) :=
  zz_start (by decide) (Nat.le_of_ble_eq_true rfl) (fun p e s m below meth c X hsz hA => zq_X8_noUnit X hA  h)
def zp_X8_layTo_41b (K32 : Int32 → zz_I → zz_L → Prop) (K41 : Int32 → zz_I → zz_L → Prop) (P : zz_I → zz_L → Prop) (k1 : Nat) (x2 : Int32) (x3 : Int32) (I : zz_I) (L : zz_L) : Prop := (((9 : Int32) * (I 0 5)) ≤ x3 → ∀ v152 : Int32, v152 = x2 + (1 : Int32) → (K32 v152 I L)) ∧ (¬ ((9 : Int32) * (I 0 5)) ≤ x3 → ¬ (I 0 5) = 0 ∧ (∀ v58 : Int32, v58 = x3 / (I 0 5) → (¬ (I 0 5) = 0 ∧ (∀ v66 : Int32, v66 = x3 - x3 / (I 0 5) * (I 0 5) → (zp_X8_unitsOf v66 (fun r72 => ∀ v76 : Int32, v76 = x2 + r72 → (vp_in (((9 : Int32) * x2) + v58) 225 ∧ (((L 24 (((9 : Int32) * x2) + v58).toNatClampNeg) ≤ (0 : Int64) → ∀ v146 : Int32, v146 = x3 + (1 : Int32) → (K41 v146 I L)) ∧ (¬ (L 24 (((9 : Int32) * x2) + v58).toNatClampNeg) ≤ (0 : Int64) → vp_in (0 : Int32) 43 ∧ (((I k1 (0 : Int32).toNatClampNeg) ≤ v76 → ∀ v146 : Int32, v146 = x3 + (1 : Int32) → (K41 v146 I L)) ∧ (¬ (I k1 (0 : Int32).toNatClampNeg) ≤ v76 → zp_X8_fits k1 v66 x2 v58 (fun r110 => (r110 = 0 → ∀ v146 : Int32, v146 = x3 + (1 : Int32) → (K41 v146 I L)) ∧ (¬ r110 = 0 → vp_in (((9 : Int32) * (v76 + (1 : Int32))) + v66) 225 ∧ (vp_in (((9 : Int32) * x2) + v58) 225 ∧ (vp_in (((9 : Int32) * (v76 + (1 : Int32))) + v66) 225 ∧ (∀ L145 : zz_L, L145 = zz_up L 24 (((9 : Int32) * (v76 + (1 : Int32))) + v66).toNatClampNeg ((L 24 (((9 : Int32) * (v76 + (1 : Int32))) + v66).toNatClampNeg) + (L 24 (((9 : Int32) * x2) + v58).toNatClampNeg)) → (∀ v146 : Int32, v146 = x3 + (1 : Int32) → (K41 v146 I L145))))))) I L)))))) I L)))))
set_option maxHeartbeats 4000000 in
set_option maxRecDepth 100000 in
theorem zq_X8_layTo_41b {p : Program} {l : Launch} {e : Env} {s : State} {m : MethodId} {args : Array Value} {below : List Frame} {meth : Method} {c : Code} {D : va_G} {ca : Nat → ClassId} {A : Nat → Prop} {a : Nat → Nat} {K32 : Int32 → zz_I → zz_L → Prop} {K41 : Int32 → zz_I → zz_L → Prop} {P : zz_I → zz_L → Prop} {I : zz_I} {L : zz_L} {k1 : Nat} {x2 : Int32} {x3 : Int32} (X : zz_X p s m meth c cX8_layTo RX8 none 7) (hA : ∀ q, s.heap.size ≤ q → A q) (hk1 : zz_dM[k1]? = some (.inl (0, 43))) (hK32 : ∀ (y2 : Int32) (I8 : zz_I) (L8 : zz_L), K32 y2 I8 L8 → zz_Go p l e ({ frames := 4, cells := 0, slots := 0, locals := 100 } : Room) s m args below meth c 0 0 (MQ below (zz_Qv D ca zz_dM A a P) args s 0 0 A) D ca zz_dM A 7 32 a [] [(0, .ref (a 0)), (1, .ref (a k1)), (2, .int y2)] I8 L8) (hK41 : ∀ (y3 : Int32) (I8 : zz_I) (L8 : zz_L), K41 y3 I8 L8 → zz_Go p l e ({ frames := 4, cells := 0, slots := 0, locals := 100 } : Room) s m args below meth c 0 0 (MQ below (zz_Qv D ca zz_dM A a P) args s 0 0 A) D ca zz_dM A 7 41 a [] [(0, .ref (a 0)), (1, .ref (a k1)), (2, .int x2), (3, .int y3)] I8 L8) (h : zp_X8_layTo_41b K32 K41 P k1 x2 x3 I L) : zz_Go p l e ({ frames := 4, cells := 0, slots := 0, locals := 100 } : Room) s m args below meth c 0 0 (MQ below (zz_Qv D ca zz_dM A a P) args s 0 0 A) D ca zz_dM A 7 41 a [] [(0, .ref (a 0)), (1, .ref (a k1)), (2, .int x2), (3, .int x3)] I L := by
  obtain ⟨hx, hb, hml, hown, zw, hr, hlocks⟩ := id X
  intro H locs ls hB hl
  unfold zp_X8_layTo_41b at h
  refine lv_iload_n hx hb dX8_layTo_41 rfl (lv_at hl 3 rfl) ?_
  refine lv_bipush (v := (9 : Int32)) hx hb dX8_layTo_42 (by decide) ?_
  refine lv_aload_n hx hb dX8_layTo_44 rfl (lv_at hl 0 rfl) ?_
  refine zz_geti hx hb hown zw hB zF_X8_98 zdM_0 rfl dX8_layTo_45 ?_
  refine lv_imul hx hb dX8_layTo_48 ?_
  refine lv_icmp_ge (tgt := 152) hx hb dX8_layTo_49 (by decide) (fun c49 => ?_) (fun c49 => ?_)
  · have h := h.1 c49
    obtain ⟨v152, ev152⟩ : ∃ z : Int32, z = x2 + (1 : Int32) := ⟨_, rfl⟩
    have h := h v152 ev152
    refine lv_iinc (v := v152) (lv' := [(2, .int v152), (0, .ref (a 0)), (1, .ref (a k1)), (3, .int x3)]) hx hb dX8_layTo_152 hl (k := 2) rfl (by rw [ev152]; rfl) (by decide) rfl (fun ls hl => ?_)
    refine lv_goto (tgt := 32) hx hb dX8_layTo_155 (by decide) ?_
    exact hK32 _ _ _ h H locs ls hB (lv_sub hl [1, 2, 0] rfl)
  · have h := h.2 c49
    refine lv_iload_n hx hb dX8_layTo_52 rfl (lv_at hl 3 rfl) ?_
    refine lv_aload_n hx hb dX8_layTo_53 rfl (lv_at hl 0 rfl) ?_
    refine zz_geti hx hb hown zw hB zF_X8_98 zdM_0 rfl dX8_layTo_54 ?_
    obtain ⟨h57, h⟩ := h
    refine lv_idiv hx hb dX8_layTo_57 h57 ?_
    refine lv_topi (fun v58 ev58 => ?_)
    have h := h v58 ev58
    refine lv_istore (lv' := [(4, .int v58), (0, .ref (a 0)), (1, .ref (a k1)), (2, .int x2), (3, .int x3)]) hx hb dX8_layTo_58 hl (by decide) rfl (fun ls hl => ?_)
    refine lv_iload_n hx hb dX8_layTo_60 rfl (lv_at hl 4 rfl) ?_
    refine lv_aload_n hx hb dX8_layTo_61 rfl (lv_at hl 1 rfl) ?_
    refine zz_geti hx hb hown zw hB zF_X8_98 zdM_0 rfl dX8_layTo_62 ?_
    obtain ⟨h65, h⟩ := h
    refine lv_irem hx hb dX8_layTo_65 h65 ?_
    refine lv_topi (fun v66 ev66 => ?_)
    have h := h v66 ev66
    refine lv_istore (lv' := [(5, .int v66), (4, .int v58), (0, .ref (a 0)), (1, .ref (a k1)), (2, .int x2), (3, .int x3)]) hx hb dX8_layTo_66 hl (by decide) rfl (fun ls hl => ?_)
    refine lv_iload_n hx hb dX8_layTo_68 rfl (lv_at hl 4 rfl) ?_
    refine lv_aload_n hx hb dX8_layTo_69 rfl (lv_at hl 2 rfl) ?_
    refine lv_iload hx hb dX8_layTo_70 (lv_at hl 0 rfl) ?_
    refine zz_goip hB hA (zz_runV (As := [.int v66]) (rest := [.int x2]) hx hb hml hown zw hB zM_X8_152 (zc_X8_unitsOf l D ca a I L H.size h) zdM_0 rfl rfl hl.1 rfl (Nat.le_of_ble_eq_true rfl) rfl rfl ⟨Nat.le_of_ble_eq_true rfl, Nat.le_of_ble_eq_true rfl⟩ dX8_layTo_72 ⟨Nat.le_of_ble_eq_true rfl, Nat.le_of_ble_eq_true rfl⟩) (fun r72 H locs h hB => ?_)
    refine lv_iadd hx hb dX8_layTo_75 ?_
    refine lv_topi (fun v76 ev76 => ?_)
    have h := h v76 ev76
    refine lv_istore (lv' := [(6, .int v76), (5, .int v66), (4, .int v58), (0, .ref (a 0)), (1, .ref (a k1)), (2, .int x2), (3, .int x3)]) hx hb dX8_layTo_76 hl (by decide) rfl (fun ls hl => ?_)
    refine lv_aload_n hx hb dX8_layTo_78 rfl (lv_at hl 3 rfl) ?_
    refine zz_getr (k' := 24) hx hb hown zw hB zF_X8_81 zdM_0 rfl rfl dX8_layTo_79 ?_
    refine lv_bipush (v := (9 : Int32)) hx hb dX8_layTo_82 (by decide) ?_
    refine lv_iload_n hx hb dX8_layTo_84 rfl (lv_at hl 5 rfl) ?_
    refine lv_imul hx hb dX8_layTo_85 ?_
    refine lv_iload hx hb dX8_layTo_86 (lv_at hl 2 rfl) ?_
    refine lv_iadd hx hb dX8_layTo_88 ?_
    obtain ⟨hi89, h⟩ := h
    refine zz_lald hx hb hB zdM_24 hi89 dX8_layTo_89 ?_
    refine lv_lconst (v := (0 : Int64)) hx hb dX8_layTo_90 (by decide) ?_
    refine zz_l_le (tgt := 146) hx hb dX8_layTo_91 dX8_layTo_92 (by decide) (fun c91 => ?_) (fun c91 => ?_)
    · have h := h.1 c91
      obtain ⟨v146, ev146⟩ : ∃ z : Int32, z = x3 + (1 : Int32) := ⟨_, rfl⟩
      have h := h v146 ev146
      refine lv_iinc (v := v146) (lv' := [(3, .int v146), (6, .int v76), (5, .int v66), (4, .int v58), (0, .ref (a 0)), (1, .ref (a k1)), (2, .int x2)]) hx hb dX8_layTo_146 hl (k := 6) rfl (by rw [ev146]; rfl) (by decide) rfl (fun ls hl => ?_)
      refine lv_goto (tgt := 41) hx hb dX8_layTo_149 (by decide) ?_
      exact hK41 _ _ _ h H locs ls hB (lv_sub hl [4, 5, 6, 0] rfl)
    · have h := h.2 c91
      refine lv_iload hx hb dX8_layTo_95 (lv_at hl 0 rfl) ?_
      refine lv_aload_n hx hb dX8_layTo_97 rfl (lv_at hl 4 rfl) ?_
      refine lv_iconst (v := (0 : Int32)) hx hb dX8_layTo_98 (by decide) ?_
      obtain ⟨hi99, h⟩ := h
      refine zz_iald hx hb hB hk1 hi99 dX8_layTo_99 ?_
      refine lv_icmp_ge (tgt := 146) hx hb dX8_layTo_100 (by decide) (fun c100 => ?_) (fun c100 => ?_)
      · have h := h.1 c100
        obtain ⟨v146, ev146⟩ : ∃ z : Int32, z = x3 + (1 : Int32) := ⟨_, rfl⟩
        have h := h v146 ev146
        refine lv_iinc (v := v146) (lv' := [(3, .int v146), (6, .int v76), (5, .int v66), (4, .int v58), (0, .ref (a 0)), (1, .ref (a k1)), (2, .int x2)]) hx hb dX8_layTo_146 hl (k := 6) rfl (by rw [ev146]; rfl) (by decide) rfl (fun ls hl => ?_)
        refine lv_goto (tgt := 41) hx hb dX8_layTo_149 (by decide) ?_
        exact hK41 _ _ _ h H locs ls hB (lv_sub hl [4, 5, 6, 0] rfl)
      · have h := h.2 c100
        refine lv_aload_n hx hb dX8_layTo_103 rfl (lv_at hl 3 rfl) ?_
        refine lv_aload_n hx hb dX8_layTo_104 rfl (lv_at hl 4 rfl) ?_
        refine lv_iload hx hb dX8_layTo_105 (lv_at hl 1 rfl) ?_
        refine lv_iload_n hx hb dX8_layTo_107 rfl (lv_at hl 5 rfl) ?_
        refine lv_iload hx hb dX8_layTo_108 (lv_at hl 2 rfl) ?_
        refine zz_goip hB hA (zz_runV (As := [.ref (a k1), .int v66, .int x2, .int v58]) (rest := []) hx hb hml hown zw hB zM_X8_199 (zc_X8_fits l D ca a I L H.size hk1 h) zdM_0 rfl rfl hl.1 rfl (Nat.le_of_ble_eq_true rfl) rfl rfl ⟨Nat.le_of_ble_eq_true rfl, Nat.le_of_ble_eq_true rfl⟩ dX8_layTo_110 ⟨Nat.le_of_ble_eq_true rfl, Nat.le_of_ble_eq_true rfl⟩) (fun r110 H locs h hB => ?_)
        refine lv_if_eq (tgt := 146) hx hb dX8_layTo_113 (by decide) (fun c113 => ?_) (fun c113 => ?_)
        · have h := h.1 c113
          obtain ⟨v146, ev146⟩ : ∃ z : Int32, z = x3 + (1 : Int32) := ⟨_, rfl⟩
          have h := h v146 ev146
          refine lv_iinc (v := v146) (lv' := [(3, .int v146), (6, .int v76), (5, .int v66), (4, .int v58), (0, .ref (a 0)), (1, .ref (a k1)), (2, .int x2)]) hx hb dX8_layTo_146 hl (k := 6) rfl (by rw [ev146]; rfl) (by decide) rfl (fun ls hl => ?_)
          refine lv_goto (tgt := 41) hx hb dX8_layTo_149 (by decide) ?_
          exact hK41 _ _ _ h H locs ls hB (lv_sub hl [4, 5, 6, 0] rfl)
        · have h := h.2 c113
          refine lv_aload_n hx hb dX8_layTo_116 rfl (lv_at hl 3 rfl) ?_
          refine zz_getr (k' := 24) hx hb hown zw hB zF_X8_81 zdM_0 rfl rfl dX8_layTo_117 ?_
          refine lv_bipush (v := (9 : Int32)) hx hb dX8_layTo_120 (by decide) ?_
          refine lv_iload hx hb dX8_layTo_122 (lv_at hl 0 rfl) ?_
          refine lv_iconst (v := (1 : Int32)) hx hb dX8_layTo_124 (by decide) ?_
          refine lv_iadd hx hb dX8_layTo_125 ?_
          refine lv_imul hx hb dX8_layTo_126 ?_
          refine lv_iload hx hb dX8_layTo_127 (lv_at hl 1 rfl) ?_
          refine lv_iadd hx hb dX8_layTo_129 ?_
          refine lv_dup2_11 hx hb dX8_layTo_130 rfl rfl ?_
          obtain ⟨hi131, h⟩ := h
          refine zz_lald hx hb hB zdM_24 hi131 dX8_layTo_131 ?_
          refine lv_aload_n hx hb dX8_layTo_132 rfl (lv_at hl 3 rfl) ?_
          refine zz_getr (k' := 24) hx hb hown zw hB zF_X8_81 zdM_0 rfl rfl dX8_layTo_133 ?_
          refine lv_bipush (v := (9 : Int32)) hx hb dX8_layTo_136 (by decide) ?_
          refine lv_iload_n hx hb dX8_layTo_138 rfl (lv_at hl 5 rfl) ?_
          refine lv_imul hx hb dX8_layTo_139 ?_
          refine lv_iload hx hb dX8_layTo_140 (lv_at hl 2 rfl) ?_
          refine lv_iadd hx hb dX8_layTo_142 ?_
          obtain ⟨hi143, h⟩ := h
          refine zz_lald hx hb hB zdM_24 hi143 dX8_layTo_143 ?_
          refine lv_ladd hx hb dX8_layTo_144 ?_
          obtain ⟨hi145, h⟩ := h
          refine zz_last hx hb hB zdM_24 hi145 dX8_layTo_145 (fun H locs hB => ?_)
          obtain ⟨L145, eL145⟩ : ∃ z : zz_L, z = zz_up L 24 (((9 : Int32) * (v76 + (1 : Int32))) + v66).toNatClampNeg ((L 24 (((9 : Int32) * (v76 + (1 : Int32))) + v66).toNatClampNeg) + (L 24 (((9 : Int32) * x2) + v58).toNatClampNeg)) := ⟨_, rfl⟩
          rw [← eL145] at hB
          have h := h L145 eL145
          obtain ⟨v146, ev146⟩ : ∃ z : Int32, z = x3 + (1 : Int32) := ⟨_, rfl⟩
          have h := h v146 ev146
          refine lv_iinc (v := v146) (lv' := [(3, .int v146), (6, .int v76), (5, .int v66), (4, .int v58), (0, .ref (a 0)), (1, .ref (a k1)), (2, .int x2)]) hx hb dX8_layTo_146 hl (k := 6) rfl (by rw [ev146]; rfl) (by decide) rfl (fun ls hl => ?_)
          refine lv_goto (tgt := 41) hx hb dX8_layTo_149 (by decide) ?_
          exact hK41 _ _ _ h H locs ls hB (lv_sub hl [4, 5, 6, 0] rfl)
def zp_X8_layTo_41 (K32 : Int32 → zz_I → zz_L → Prop) (P : zz_I → zz_L → Prop) (k1 : Nat) (x2 : Int32) (x3 : Int32) (I : zz_I) (L : zz_L) : Prop := ∃ (Inv : Int32 → zz_I → zz_L → Prop) (μ : Int32 → zz_I → zz_L → Nat), Inv x3 I L ∧ ∀ (y3 : Int32) (I8 : zz_I) (L8 : zz_L), Inv y3 I8 L8 → zp_X8_layTo_41b K32 (fun z3 I7 L7 => Inv z3 I7 L7 ∧ μ z3 I7 L7 < μ y3 I8 L8) P k1 x2 y3 I8 L8
set_option maxHeartbeats 4000000 in
set_option maxRecDepth 100000 in
theorem zq_X8_layTo_41 {p : Program} {l : Launch} {e : Env} {s : State} {m : MethodId} {args : Array Value} {below : List Frame} {meth : Method} {c : Code} {D : va_G} {ca : Nat → ClassId} {A : Nat → Prop} {a : Nat → Nat} {K32 : Int32 → zz_I → zz_L → Prop} {P : zz_I → zz_L → Prop} {I : zz_I} {L : zz_L} {k1 : Nat} {x2 : Int32} {x3 : Int32} (X : zz_X p s m meth c cX8_layTo RX8 none 7) (hA : ∀ q, s.heap.size ≤ q → A q) (hk1 : zz_dM[k1]? = some (.inl (0, 43))) (hK32 : ∀ (y2 : Int32) (I8 : zz_I) (L8 : zz_L), K32 y2 I8 L8 → zz_Go p l e ({ frames := 4, cells := 0, slots := 0, locals := 100 } : Room) s m args below meth c 0 0 (MQ below (zz_Qv D ca zz_dM A a P) args s 0 0 A) D ca zz_dM A 7 32 a [] [(0, .ref (a 0)), (1, .ref (a k1)), (2, .int y2)] I8 L8) (h : zp_X8_layTo_41 K32 P k1 x2 x3 I L) : zz_Go p l e ({ frames := 4, cells := 0, slots := 0, locals := 100 } : Room) s m args below meth c 0 0 (MQ below (zz_Qv D ca zz_dM A a P) args s 0 0 A) D ca zz_dM A 7 41 a [] [(0, .ref (a 0)), (1, .ref (a k1)), (2, .int x2), (3, .int x3)] I L := by
  unfold zp_X8_layTo_41 at h
  obtain ⟨Inv, μ, hv0, hs⟩ := h
  have key : ∀ (n9 : Nat) (y3 : Int32) (I8 : zz_I) (L8 : zz_L), μ y3 I8 L8 < n9 → Inv y3 I8 L8 → zz_Go p l e ({ frames := 4, cells := 0, slots := 0, locals := 100 } : Room) s m args below meth c 0 0 (MQ below (zz_Qv D ca zz_dM A a P) args s 0 0 A) D ca zz_dM A 7 41 a [] [(0, .ref (a 0)), (1, .ref (a k1)), (2, .int x2), (3, .int y3)] I8 L8 := by
    intro n9
    induction n9 with
    | zero => intro y3 I8 L8 hn; exact absurd hn (Nat.not_lt_zero _)
    | succ n9 ih =>
      intro y3 I8 L8 hn hi
      exact zq_X8_layTo_41b (K41 := (fun z3 I7 L7 => Inv z3 I7 L7 ∧ μ z3 I7 L7 < μ y3 I8 L8)) X hA hk1 hK32 (fun z3 I7 L7 hz => ih z3 I7 L7 (Nat.lt_of_lt_of_le hz.2 (Nat.le_of_lt_succ hn)) hz.1) (hs y3 I8 L8 hi)
  exact key _ x3 I L (Nat.lt_succ_self _) hv0
def zp_X8_layTo_32b (K32 : Int32 → zz_I → zz_L → Prop) (P : zz_I → zz_L → Prop) (k1 : Nat) (x2 : Int32) (I : zz_I) (L : zz_L) : Prop := vp_in (0 : Int32) 43 ∧ (((I k1 (0 : Int32).toNatClampNeg) ≤ x2 → P I L) ∧ (¬ (I k1 (0 : Int32).toNatClampNeg) ≤ x2 → zp_X8_layTo_41 K32 P k1 x2 (0 : Int32) I L))
set_option maxHeartbeats 4000000 in
set_option maxRecDepth 100000 in
theorem zq_X8_layTo_32b {p : Program} {l : Launch} {e : Env} {s : State} {m : MethodId} {args : Array Value} {below : List Frame} {meth : Method} {c : Code} {D : va_G} {ca : Nat → ClassId} {A : Nat → Prop} {a : Nat → Nat} {K32 : Int32 → zz_I → zz_L → Prop} {P : zz_I → zz_L → Prop} {I : zz_I} {L : zz_L} {k1 : Nat} {x2 : Int32} (X : zz_X p s m meth c cX8_layTo RX8 none 7) (hA : ∀ q, s.heap.size ≤ q → A q) (hk1 : zz_dM[k1]? = some (.inl (0, 43))) (hK32 : ∀ (y2 : Int32) (I8 : zz_I) (L8 : zz_L), K32 y2 I8 L8 → zz_Go p l e ({ frames := 4, cells := 0, slots := 0, locals := 100 } : Room) s m args below meth c 0 0 (MQ below (zz_Qv D ca zz_dM A a P) args s 0 0 A) D ca zz_dM A 7 32 a [] [(0, .ref (a 0)), (1, .ref (a k1)), (2, .int y2)] I8 L8) (h : zp_X8_layTo_32b K32 P k1 x2 I L) : zz_Go p l e ({ frames := 4, cells := 0, slots := 0, locals := 100 } : Room) s m args below meth c 0 0 (MQ below (zz_Qv D ca zz_dM A a P) args s 0 0 A) D ca zz_dM A 7 32 a [] [(0, .ref (a 0)), (1, .ref (a k1)), (2, .int x2)] I L := by
  obtain ⟨hx, hb, hml, hown, zw, hr, hlocks⟩ := id X
  intro H locs ls hB hl
  unfold zp_X8_layTo_32b at h
  refine lv_iload_n hx hb dX8_layTo_32 rfl (lv_at hl 2 rfl) ?_
  refine lv_aload_n hx hb dX8_layTo_33 rfl (lv_at hl 1 rfl) ?_
  refine lv_iconst (v := (0 : Int32)) hx hb dX8_layTo_34 (by decide) ?_
  obtain ⟨hi35, h⟩ := h
  refine zz_iald hx hb hB hk1 hi35 dX8_layTo_35 ?_
  refine lv_icmp_ge (tgt := 158) hx hb dX8_layTo_36 (by decide) (fun c36 => ?_) (fun c36 => ?_)
  · have h := h.1 c36
    exact zz_vret hx hb hr hlocks hB h dX8_layTo_158
  · have h := h.2 c36
    refine lv_iconst (v := (0 : Int32)) hx hb dX8_layTo_39 (by decide) ?_
    refine lv_istore_n (lv' := [(3, .int (0 : Int32)), (0, .ref (a 0)), (1, .ref (a k1)), (2, .int x2)]) hx hb dX8_layTo_40 rfl hl (by decide) rfl (fun ls hl => ?_)
    exact zq_X8_layTo_41 X hA hk1 hK32 h H locs ls hB (lv_sub hl [1, 2, 3, 0] rfl)
def zp_X8_layTo_32  (P : zz_I → zz_L → Prop) (k1 : Nat) (x2 : Int32) (I : zz_I) (L : zz_L) : Prop := ∃ (Inv : Int32 → zz_I → zz_L → Prop) (μ : Int32 → zz_I → zz_L → Nat), Inv x2 I L ∧ ∀ (y2 : Int32) (I8 : zz_I) (L8 : zz_L), Inv y2 I8 L8 → zp_X8_layTo_32b  (fun z2 I7 L7 => Inv z2 I7 L7 ∧ μ z2 I7 L7 < μ y2 I8 L8) P k1 y2 I8 L8
set_option maxHeartbeats 4000000 in
set_option maxRecDepth 100000 in
theorem zq_X8_layTo_32 {p : Program} {l : Launch} {e : Env} {s : State} {m : MethodId} {args : Array Value} {below : List Frame} {meth : Method} {c : Code} {D : va_G} {ca : Nat → ClassId} {A : Nat → Prop} {a : Nat → Nat}  {P : zz_I → zz_L → Prop} {I : zz_I} {L : zz_L} {k1 : Nat} {x2 : Int32} (X : zz_X p s m meth c cX8_layTo RX8 none 7) (hA : ∀ q, s.heap.size ≤ q → A q) (hk1 : zz_dM[k1]? = some (.inl (0, 43)))  (h : zp_X8_layTo_32  P k1 x2 I L) : zz_Go p l e ({ frames := 4, cells := 0, slots := 0, locals := 100 } : Room) s m args below meth c 0 0 (MQ below (zz_Qv D ca zz_dM A a P) args s 0 0 A) D ca zz_dM A 7 32 a [] [(0, .ref (a 0)), (1, .ref (a k1)), (2, .int x2)] I L := by
  unfold zp_X8_layTo_32 at h
  obtain ⟨Inv, μ, hv0, hs⟩ := h
  have key : ∀ (n9 : Nat) (y2 : Int32) (I8 : zz_I) (L8 : zz_L), μ y2 I8 L8 < n9 → Inv y2 I8 L8 → zz_Go p l e ({ frames := 4, cells := 0, slots := 0, locals := 100 } : Room) s m args below meth c 0 0 (MQ below (zz_Qv D ca zz_dM A a P) args s 0 0 A) D ca zz_dM A 7 32 a [] [(0, .ref (a 0)), (1, .ref (a k1)), (2, .int y2)] I8 L8 := by
    intro n9
    induction n9 with
    | zero => intro y2 I8 L8 hn; exact absurd hn (Nat.not_lt_zero _)
    | succ n9 ih =>
      intro y2 I8 L8 hn hi
      exact zq_X8_layTo_32b (K32 := (fun z2 I7 L7 => Inv z2 I7 L7 ∧ μ z2 I7 L7 < μ y2 I8 L8)) X hA hk1  (fun z2 I7 L7 hz => ih z2 I7 L7 (Nat.lt_of_lt_of_le hz.2 (Nat.le_of_lt_succ hn)) hz.1) (hs y2 I8 L8 hi)
  exact key _ x2 I L (Nat.lt_succ_self _) hv0
def zp_X8_layTo_2b (K2 : Int32 → zz_I → zz_L → Prop) (P : zz_I → zz_L → Prop) (k1 : Nat) (x2 : Int32) (I : zz_I) (L : zz_L) : Prop := ((225 : Int32) ≤ x2 → vp_in (8 : Int32) 225 ∧ (∀ L29 : zz_L, L29 = zz_up L 24 (8 : Int32).toNatClampNeg (1 : Int64) → (zp_X8_layTo_32 P k1 (0 : Int32) I L29))) ∧ (¬ (225 : Int32) ≤ x2 → vp_in x2 225 ∧ (∀ L15 : zz_L, L15 = zz_up L 24 x2.toNatClampNeg (0 : Int64) → (∀ v16 : Int32, v16 = x2 + (1 : Int32) → (K2 v16 I L15))))
set_option maxHeartbeats 4000000 in
set_option maxRecDepth 100000 in
theorem zq_X8_layTo_2b {p : Program} {l : Launch} {e : Env} {s : State} {m : MethodId} {args : Array Value} {below : List Frame} {meth : Method} {c : Code} {D : va_G} {ca : Nat → ClassId} {A : Nat → Prop} {a : Nat → Nat} {K2 : Int32 → zz_I → zz_L → Prop} {P : zz_I → zz_L → Prop} {I : zz_I} {L : zz_L} {k1 : Nat} {x2 : Int32} (X : zz_X p s m meth c cX8_layTo RX8 none 7) (hA : ∀ q, s.heap.size ≤ q → A q) (hk1 : zz_dM[k1]? = some (.inl (0, 43))) (hK2 : ∀ (y2 : Int32) (I8 : zz_I) (L8 : zz_L), K2 y2 I8 L8 → zz_Go p l e ({ frames := 4, cells := 0, slots := 0, locals := 100 } : Room) s m args below meth c 0 0 (MQ below (zz_Qv D ca zz_dM A a P) args s 0 0 A) D ca zz_dM A 7 2 a [] [(0, .ref (a 0)), (1, .ref (a k1)), (2, .int y2)] I8 L8) (h : zp_X8_layTo_2b K2 P k1 x2 I L) : zz_Go p l e ({ frames := 4, cells := 0, slots := 0, locals := 100 } : Room) s m args below meth c 0 0 (MQ below (zz_Qv D ca zz_dM A a P) args s 0 0 A) D ca zz_dM A 7 2 a [] [(0, .ref (a 0)), (1, .ref (a k1)), (2, .int x2)] I L := by
  obtain ⟨hx, hb, hml, hown, zw, hr, hlocks⟩ := id X
  intro H locs ls hB hl
  unfold zp_X8_layTo_2b at h
  refine lv_iload_n hx hb dX8_layTo_2 rfl (lv_at hl 2 rfl) ?_
  refine lv_sipush (v := (225 : Int32)) hx hb dX8_layTo_3 (by decide) ?_
  refine lv_icmp_ge (tgt := 22) hx hb dX8_layTo_6 (by decide) (fun c6 => ?_) (fun c6 => ?_)
  · have h := h.1 c6
    refine lv_aload_n hx hb dX8_layTo_22 rfl (lv_at hl 0 rfl) ?_
    refine zz_getr (k' := 24) hx hb hown zw hB zF_X8_81 zdM_0 rfl rfl dX8_layTo_23 ?_
    refine lv_bipush (v := (8 : Int32)) hx hb dX8_layTo_26 (by decide) ?_
    refine lv_lconst (v := (1 : Int64)) hx hb dX8_layTo_28 (by decide) ?_
    obtain ⟨hi29, h⟩ := h
    refine zz_last hx hb hB zdM_24 hi29 dX8_layTo_29 (fun H locs hB => ?_)
    obtain ⟨L29, eL29⟩ : ∃ z : zz_L, z = zz_up L 24 (8 : Int32).toNatClampNeg (1 : Int64) := ⟨_, rfl⟩
    rw [← eL29] at hB
    have h := h L29 eL29
    refine lv_iconst (v := (0 : Int32)) hx hb dX8_layTo_30 (by decide) ?_
    refine lv_istore_n (lv' := [(2, .int (0 : Int32)), (0, .ref (a 0)), (1, .ref (a k1))]) hx hb dX8_layTo_31 rfl hl (by decide) rfl (fun ls hl => ?_)
    exact zq_X8_layTo_32 X hA hk1 h H locs ls hB (lv_sub hl [1, 2, 0] rfl)
  · have h := h.2 c6
    refine lv_aload_n hx hb dX8_layTo_9 rfl (lv_at hl 0 rfl) ?_
    refine zz_getr (k' := 24) hx hb hown zw hB zF_X8_81 zdM_0 rfl rfl dX8_layTo_10 ?_
    refine lv_iload_n hx hb dX8_layTo_13 rfl (lv_at hl 2 rfl) ?_
    refine lv_lconst (v := (0 : Int64)) hx hb dX8_layTo_14 (by decide) ?_
    obtain ⟨hi15, h⟩ := h
    refine zz_last hx hb hB zdM_24 hi15 dX8_layTo_15 (fun H locs hB => ?_)
    obtain ⟨L15, eL15⟩ : ∃ z : zz_L, z = zz_up L 24 x2.toNatClampNeg (0 : Int64) := ⟨_, rfl⟩
    rw [← eL15] at hB
    have h := h L15 eL15
    obtain ⟨v16, ev16⟩ : ∃ z : Int32, z = x2 + (1 : Int32) := ⟨_, rfl⟩
    have h := h v16 ev16
    refine lv_iinc (v := v16) (lv' := [(2, .int v16), (0, .ref (a 0)), (1, .ref (a k1))]) hx hb dX8_layTo_16 hl (k := 2) rfl (by rw [ev16]; rfl) (by decide) rfl (fun ls hl => ?_)
    refine lv_goto (tgt := 2) hx hb dX8_layTo_19 (by decide) ?_
    exact hK2 _ _ _ h H locs ls hB (lv_sub hl [1, 2, 0] rfl)
def zp_X8_layTo_2  (P : zz_I → zz_L → Prop) (k1 : Nat) (x2 : Int32) (I : zz_I) (L : zz_L) : Prop := ∃ (Inv : Int32 → zz_I → zz_L → Prop) (μ : Int32 → zz_I → zz_L → Nat), Inv x2 I L ∧ ∀ (y2 : Int32) (I8 : zz_I) (L8 : zz_L), Inv y2 I8 L8 → zp_X8_layTo_2b  (fun z2 I7 L7 => Inv z2 I7 L7 ∧ μ z2 I7 L7 < μ y2 I8 L8) P k1 y2 I8 L8
set_option maxHeartbeats 4000000 in
set_option maxRecDepth 100000 in
theorem zq_X8_layTo_2 {p : Program} {l : Launch} {e : Env} {s : State} {m : MethodId} {args : Array Value} {below : List Frame} {meth : Method} {c : Code} {D : va_G} {ca : Nat → ClassId} {A : Nat → Prop} {a : Nat → Nat}  {P : zz_I → zz_L → Prop} {I : zz_I} {L : zz_L} {k1 : Nat} {x2 : Int32} (X : zz_X p s m meth c cX8_layTo RX8 none 7) (hA : ∀ q, s.heap.size ≤ q → A q) (hk1 : zz_dM[k1]? = some (.inl (0, 43)))  (h : zp_X8_layTo_2  P k1 x2 I L) : zz_Go p l e ({ frames := 4, cells := 0, slots := 0, locals := 100 } : Room) s m args below meth c 0 0 (MQ below (zz_Qv D ca zz_dM A a P) args s 0 0 A) D ca zz_dM A 7 2 a [] [(0, .ref (a 0)), (1, .ref (a k1)), (2, .int x2)] I L := by
  unfold zp_X8_layTo_2 at h
  obtain ⟨Inv, μ, hv0, hs⟩ := h
  have key : ∀ (n9 : Nat) (y2 : Int32) (I8 : zz_I) (L8 : zz_L), μ y2 I8 L8 < n9 → Inv y2 I8 L8 → zz_Go p l e ({ frames := 4, cells := 0, slots := 0, locals := 100 } : Room) s m args below meth c 0 0 (MQ below (zz_Qv D ca zz_dM A a P) args s 0 0 A) D ca zz_dM A 7 2 a [] [(0, .ref (a 0)), (1, .ref (a k1)), (2, .int y2)] I8 L8 := by
    intro n9
    induction n9 with
    | zero => intro y2 I8 L8 hn; exact absurd hn (Nat.not_lt_zero _)
    | succ n9 ih =>
      intro y2 I8 L8 hn hi
      exact zq_X8_layTo_2b (K2 := (fun z2 I7 L7 => Inv z2 I7 L7 ∧ μ z2 I7 L7 < μ y2 I8 L8)) X hA hk1  (fun z2 I7 L7 hz => ih z2 I7 L7 (Nat.lt_of_lt_of_le hz.2 (Nat.le_of_lt_succ hn)) hz.1) (hs y2 I8 L8 hi)
  exact key _ x2 I L (Nat.lt_succ_self _) hv0
def zp_X8_layTo (k1 : Nat) (P : zz_I → zz_L → Prop) (I : zz_I) (L : zz_L) : Prop := zp_X8_layTo_2 P k1 (0 : Int32) I L
set_option maxHeartbeats 4000000 in
set_option maxRecDepth 100000 in
theorem zq_X8_layTo {p : Program} {l : Launch} {e : Env} {s : State} {m : MethodId} {args : Array Value} {below : List Frame} {meth : Method} {c : Code} {D : va_G} {ca : Nat → ClassId} {A : Nat → Prop} {a : Nat → Nat}  {P : zz_I → zz_L → Prop} {I : zz_I} {L : zz_L} {k1 : Nat} (X : zz_X p s m meth c cX8_layTo RX8 none 7) (hA : ∀ q, s.heap.size ≤ q → A q) (hk1 : zz_dM[k1]? = some (.inl (0, 43)))  (h : zp_X8_layTo k1 P I L) : zz_Go p l e ({ frames := 4, cells := 0, slots := 0, locals := 100 } : Room) s m args below meth c 0 0 (MQ below (zz_Qv D ca zz_dM A a P) args s 0 0 A) D ca zz_dM A 7 0 a [] [(0, .ref (a 0)), (1, .ref (a k1))] I L := by
  obtain ⟨hx, hb, hml, hown, zw, hr, hlocks⟩ := id X
  intro H locs ls hB hl
  unfold zp_X8_layTo at h
  refine lv_iconst (v := (0 : Int32)) hx hb dX8_layTo_0 (by decide) ?_
  refine lv_istore_n (lv' := [(2, .int (0 : Int32)), (0, .ref (a 0)), (1, .ref (a k1))]) hx hb dX8_layTo_1 rfl hl (by decide) rfl (fun ls hl => ?_)
  exact zq_X8_layTo_2 X hA hk1 h H locs ls hB (lv_sub hl [1, 2, 0] rfl)
theorem zc_X8_layTo (l : Launch) (D : va_G) (ca : Nat → ClassId) (a : Nat → Nat) (I : zz_I) (L : zz_L) (sz : Nat) {k1 : Nat} {P : zz_I → zz_L → Prop} (hk1 : zz_dM[k1]? = some (.inl (0, 43))) (h : zp_X8_layTo k1 P I L) : Met l yX8_layTo [.code yX8_layTo cX8_layTo 7 none] ({ frames := 4, cells := 0, slots := 0, locals := 100 } : Room) (zz_Pre D ca zz_dM [.ref (a 0), .ref (a k1)] a I L sz) (zz_Qv D ca zz_dM (zz_A ca zz_dM a I L sz) a P) 0 0 (zz_A ca zz_dM a I L sz) :=
  zz_start (by decide) (Nat.le_of_ble_eq_true rfl) (fun p e s m below meth c X hsz hA => zq_X8_layTo X hA hk1 h)
