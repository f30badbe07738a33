def zp_X4_parseSign_124  (P : zz_I → zz_L → Prop)  (I : zz_I) (L : zz_L) : Prop := ∀ I131 : zz_I, I131 = zz_up I 1 4 ((I 1 4) + (1 : Int32)) → (P I131 L)
set_option maxHeartbeats 4000000 in
set_option maxRecDepth 100000 in
theorem zq_X4_parseSign_124 {p : Program} {l : Launch} {e : Env} {s : State} {m : MethodId} {args : Array Value} {below : List Frame} {meth : Method} {c : Code} {D : va_G} {ca : Nat → ClassId} {A : Nat → Prop} {a : Nat → Nat}  {P : zz_I → zz_L → Prop} {I : zz_I} {L : zz_L}  (X : zz_X p s m meth c cX4_parseSign RX4 none 5) (hA : ∀ q, s.heap.size ≤ q → A q)   (h : zp_X4_parseSign_124  P  I L) : zz_Go p l e ({ frames := 2, cells := 0, slots := 0, locals := 45 } : Room) s m args below meth c 0 0 (MQ below (zz_Qv D ca zz_dC A a P) args s 0 0 A) D ca zz_dC A 5 124 a [] [(0, .ref (a 1))] I L := by
  obtain ⟨hx, hb, hml, hown, zw, hr, hlocks⟩ := id X
  intro H locs ls hB hl
  unfold zp_X4_parseSign_124 at h
  refine lv_aload_n hx hb dX4_parseSign_124 rfl (lv_at hl 0 rfl) ?_
  refine lv_dup hx hb dX4_parseSign_125 rfl ?_
  refine zz_geti hx hb hown zw hB zF_X4_33 zdC_1 rfl dX4_parseSign_126 ?_
  refine lv_iconst (v := (1 : Int32)) hx hb dX4_parseSign_129 (by decide) ?_
  refine lv_iadd hx hb dX4_parseSign_130 ?_
  refine zz_puti hx hb hown zw hB zP_X4_33 zdC_1 rfl dX4_parseSign_131 (fun H locs hB => ?_)
  obtain ⟨I131, eI131⟩ : ∃ z : zz_I, z = zz_up I 1 4 ((I 1 4) + (1 : Int32)) := ⟨_, rfl⟩
  rw [← eI131] at hB
  have h := h I131 eI131
  exact zz_vret hx hb hr hlocks hB h dX4_parseSign_134
def zp_X4_parseSign_43  (P : zz_I → zz_L → Prop) (x2 : Int32) (x3 : Int32) (I : zz_I) (L : zz_L) : Prop := (x3 < (1 : Int32) → ∀ I70 : zz_I, I70 = zz_up I 1 5 (1 : Int32) → (P I70 L)) ∧ (¬ x3 < (1 : Int32) → ((9 : Int32) < x3 → ∀ I70 : zz_I, I70 = zz_up I 1 5 (1 : Int32) → (P I70 L)) ∧ (¬ (9 : Int32) < x3 → (((I 10 3) + x3) ≤ (24 : Int32) → ∀ v81 : Int32, v81 = I 10 3 → (∀ I91 : zz_I, I91 = zz_up I 10 3 (v81 + x3) → ((¬ x2 = (7 : Int32) → zp_X6_putSign 10 v81 x2 x3 (fun I121 L121 => zp_X4_parseSign_124 P I121 L121) I91 L) ∧ (x2 = (7 : Int32) → zp_X6_putGap 10 v81 x3 (fun I107 L107 => zp_X4_parseSign_124 P I107 L107) I91 L)))) ∧ (¬ ((I 10 3) + x3) ≤ (24 : Int32) → ∀ I70 : zz_I, I70 = zz_up I 1 5 (1 : Int32) → (P I70 L))))
set_option maxHeartbeats 4000000 in
set_option maxRecDepth 100000 in
theorem zq_X4_parseSign_43 {p : Program} {l : Launch} {e : Env} {s : State} {m : MethodId} {args : Array Value} {below : List Frame} {meth : Method} {c : Code} {D : va_G} {ca : Nat → ClassId} {A : Nat → Prop} {a : Nat → Nat}  {P : zz_I → zz_L → Prop} {I : zz_I} {L : zz_L} {x2 : Int32} {x3 : Int32} (X : zz_X p s m meth c cX4_parseSign RX4 none 5) (hA : ∀ q, s.heap.size ≤ q → A q)   (h : zp_X4_parseSign_43  P x2 x3 I L) : zz_Go p l e ({ frames := 2, cells := 0, slots := 0, locals := 45 } : Room) s m args below meth c 0 0 (MQ below (zz_Qv D ca zz_dC A a P) args s 0 0 A) D ca zz_dC A 5 43 a [] [(0, .ref (a 1)), (2, .int x2), (3, .int x3)] I L := by
  obtain ⟨hx, hb, hml, hown, zw, hr, hlocks⟩ := id X
  intro H locs ls hB hl
  unfold zp_X4_parseSign_43 at h
  refine lv_iload_n hx hb dX4_parseSign_43 rfl (lv_at hl 2 rfl) ?_
  refine lv_iconst (v := (1 : Int32)) hx hb dX4_parseSign_44 (by decide) ?_
  refine lv_icmp_lt (tgt := 68) hx hb dX4_parseSign_45 (by decide) (fun c45 => ?_) (fun c45 => ?_)
  · have h := h.1 c45
    refine lv_aload_n hx hb dX4_parseSign_68 rfl (lv_at hl 0 rfl) ?_
    refine lv_iconst (v := (1 : Int32)) hx hb dX4_parseSign_69 (by decide) ?_
    refine zz_putz hx hb hown zw hB zP_X4_36 zz_bool1 zdC_1 rfl dX4_parseSign_70 (fun H locs hB => ?_)
    obtain ⟨I70, eI70⟩ : ∃ z : zz_I, z = zz_up I 1 5 (1 : Int32) := ⟨_, rfl⟩
    rw [← eI70] at hB
    have h := h I70 eI70
    exact zz_vret hx hb hr hlocks hB h dX4_parseSign_73
  · have h := h.2 c45
    refine lv_iload_n hx hb dX4_parseSign_48 rfl (lv_at hl 2 rfl) ?_
    refine lv_bipush (v := (9 : Int32)) hx hb dX4_parseSign_49 (by decide) ?_
    refine lv_icmp_gt (tgt := 68) hx hb dX4_parseSign_51 (by decide) (fun c51 => ?_) (fun c51 => ?_)
    · have h := h.1 c51
      refine lv_aload_n hx hb dX4_parseSign_68 rfl (lv_at hl 0 rfl) ?_
      refine lv_iconst (v := (1 : Int32)) hx hb dX4_parseSign_69 (by decide) ?_
      refine zz_putz hx hb hown zw hB zP_X4_36 zz_bool1 zdC_1 rfl dX4_parseSign_70 (fun H locs hB => ?_)
      obtain ⟨I70, eI70⟩ : ∃ z : zz_I, z = zz_up I 1 5 (1 : Int32) := ⟨_, rfl⟩
      rw [← eI70] at hB
      have h := h I70 eI70
      exact zz_vret hx hb hr hlocks hB h dX4_parseSign_73
    · have h := h.2 c51
      refine lv_aload_n hx hb dX4_parseSign_54 rfl (lv_at hl 0 rfl) ?_
      refine zz_getr (k' := 10) hx hb hown zw hB zF_X4_29 zdC_1 rfl rfl dX4_parseSign_55 ?_
      refine zz_geti hx hb hown zw hB zF_X4_46 zdC_10 rfl dX4_parseSign_58 ?_
      refine lv_iload_n hx hb dX4_parseSign_61 rfl (lv_at hl 2 rfl) ?_
      refine lv_iadd hx hb dX4_parseSign_62 ?_
      refine lv_bipush (v := (24 : Int32)) hx hb dX4_parseSign_63 (by decide) ?_
      refine lv_icmp_le (tgt := 74) hx hb dX4_parseSign_65 (by decide) (fun c65 => ?_) (fun c65 => ?_)
      · have h := h.1 c65
        refine lv_aload_n hx hb dX4_parseSign_74 rfl (lv_at hl 0 rfl) ?_
        refine zz_getr (k' := 10) hx hb hown zw hB zF_X4_29 zdC_1 rfl rfl dX4_parseSign_75 ?_
        refine zz_geti hx hb hown zw hB zF_X4_46 zdC_10 rfl dX4_parseSign_78 ?_
        refine lv_topi (fun v81 ev81 => ?_)
        have h := h v81 ev81
        refine lv_istore (lv' := [(4, .int v81), (0, .ref (a 1)), (2, .int x2), (3, .int x3)]) hx hb dX4_parseSign_81 hl (by decide) rfl (fun ls hl => ?_)
        refine lv_aload_n hx hb dX4_parseSign_83 rfl (lv_at hl 1 rfl) ?_
        refine zz_getr (k' := 10) hx hb hown zw hB zF_X4_29 zdC_1 rfl rfl dX4_parseSign_84 ?_
        refine lv_iload hx hb dX4_parseSign_87 (lv_at hl 0 rfl) ?_
        refine lv_iload_n hx hb dX4_parseSign_89 rfl (lv_at hl 3 rfl) ?_
        refine lv_iadd hx hb dX4_parseSign_90 ?_
        refine zz_puti hx hb hown zw hB zP_X4_46 zdC_10 rfl dX4_parseSign_91 (fun H locs hB => ?_)
        obtain ⟨I91, eI91⟩ : ∃ z : zz_I, z = zz_up I 10 3 (v81 + x3) := ⟨_, rfl⟩
        rw [← eI91] at hB
        have h := h I91 eI91
        refine lv_iload_n hx hb dX4_parseSign_94 rfl (lv_at hl 2 rfl) ?_
        refine lv_bipush (v := (7 : Int32)) hx hb dX4_parseSign_95 (by decide) ?_
        refine lv_icmp_ne (tgt := 113) hx hb dX4_parseSign_97 (by decide) (fun c97 => ?_) (fun c97 => ?_)
        · have h := h.1 c97
          refine lv_aload_n hx hb dX4_parseSign_113 rfl (lv_at hl 1 rfl) ?_
          refine zz_getr (k' := 10) hx hb hown zw hB zF_X4_29 zdC_1 rfl rfl dX4_parseSign_114 ?_
          refine lv_iload hx hb dX4_parseSign_117 (lv_at hl 0 rfl) ?_
          refine lv_iload_n hx hb dX4_parseSign_119 rfl (lv_at hl 2 rfl) ?_
          refine lv_iload_n hx hb dX4_parseSign_120 rfl (lv_at hl 3 rfl) ?_
          refine zz_gov hB hA (zz_runV (As := [.int v81, .int x2, .int x3]) (rest := []) hx hb hml hown zw hB zM_X4_128 (zc_X6_putSign l D ca a I91 L H.size zz_isT_10 h) zdC_10 rfl rfl hl.1 rfl (Nat.le_of_ble_eq_true rfl) rfl rfl ⟨Nat.le_of_ble_eq_true rfl, Nat.le_of_ble_eq_true rfl⟩ dX4_parseSign_121 ⟨Nat.le_of_ble_eq_true rfl, Nat.le_of_ble_eq_true rfl⟩) (fun I121 L121 H locs h hB => ?_)
          exact zq_X4_parseSign_124 X hA  h H locs ls hB (lv_sub hl [1] rfl)
        · have h := h.2 c97
          refine lv_aload_n hx hb dX4_parseSign_100 rfl (lv_at hl 1 rfl) ?_
          refine zz_getr (k' := 10) hx hb hown zw hB zF_X4_29 zdC_1 rfl rfl dX4_parseSign_101 ?_
          refine lv_iload hx hb dX4_parseSign_104 (lv_at hl 0 rfl) ?_
          refine lv_iload_n hx hb dX4_parseSign_106 rfl (lv_at hl 3 rfl) ?_
          refine zz_gov hB hA (zz_runV (As := [.int v81, .int x3]) (rest := []) hx hb hml hown zw hB zM_X4_124 (zc_X6_putGap l D ca a I91 L H.size zz_isT_10 h) zdC_10 rfl rfl hl.1 rfl (Nat.le_of_ble_eq_true rfl) rfl rfl ⟨Nat.le_of_ble_eq_true rfl, Nat.le_of_ble_eq_true rfl⟩ dX4_parseSign_107 ⟨Nat.le_of_ble_eq_true rfl, Nat.le_of_ble_eq_true rfl⟩) (fun I107 L107 H locs h hB => ?_)
          refine lv_goto (tgt := 124) hx hb dX4_parseSign_110 (by decide) ?_
          exact zq_X4_parseSign_124 X hA  h H locs ls hB (lv_sub hl [1] rfl)
      · have h := h.2 c65
        refine lv_aload_n hx hb dX4_parseSign_68 rfl (lv_at hl 0 rfl) ?_
        refine lv_iconst (v := (1 : Int32)) hx hb dX4_parseSign_69 (by decide) ?_
        refine zz_putz hx hb hown zw hB zP_X4_36 zz_bool1 zdC_1 rfl dX4_parseSign_70 (fun H locs hB => ?_)
        obtain ⟨I70, eI70⟩ : ∃ z : zz_I, z = zz_up I 1 5 (1 : Int32) := ⟨_, rfl⟩
        rw [← eI70] at hB
        have h := h I70 eI70
        exact zz_vret hx hb hr hlocks hB h dX4_parseSign_73
def zp_X4_parseSign (x1 : Int32) (P : zz_I → zz_L → Prop) (I : zz_I) (L : zz_L) : Prop := ∀ v7 : Int32, v7 = x1 - (48 : Int32) → (zp_X4_isLetter x1 (fun r9 => (r9 = 0 → (¬ x1 = (46 : Int32) → zp_X4_parseSign_43 P (7 : Int32) v7 I L) ∧ (x1 = (46 : Int32) → zp_X4_parseSign_43 P (6 : Int32) (1 : Int32) I L)) ∧ (¬ r9 = 0 → ∀ v19 : Int32, v19 = x1 - (97 : Int32) → (zp_X2_widthOf 3 v19 (fun r25 => zp_X4_parseSign_43 P v19 r25 I L) I L))) I L)
set_option maxHeartbeats 4000000 in
set_option maxRecDepth 100000 in
theorem zq_X4_parseSign {p : Program} {l : Launch} {e : Env} {s : State} {m : MethodId} {args : Array Value} {below : List Frame} {meth : Method} {c : Code} {D : va_G} {ca : Nat → ClassId} {A : Nat → Prop} {a : Nat → Nat}  {P : zz_I → zz_L → Prop} {I : zz_I} {L : zz_L} {x1 : Int32} (X : zz_X p s m meth c cX4_parseSign RX4 none 5) (hA : ∀ q, s.heap.size ≤ q → A q)   (h : zp_X4_parseSign x1 P I L) : zz_Go p l e ({ frames := 2, cells := 0, slots := 0, locals := 45 } : Room) s m args below meth c 0 0 (MQ below (zz_Qv D ca zz_dC A a P) args s 0 0 A) D ca zz_dC A 5 0 a [] [(0, .ref (a 1)), (1, .int x1)] I L := by
  obtain ⟨hx, hb, hml, hown, zw, hr, hlocks⟩ := id X
  intro H locs ls hB hl
  unfold zp_X4_parseSign at h
  refine lv_bipush (v := (7 : Int32)) hx hb dX4_parseSign_0 (by decide) ?_
  refine lv_istore_n (lv' := [(2, .int (7 : Int32)), (0, .ref (a 1)), (1, .int x1)]) hx hb dX4_parseSign_2 rfl hl (by decide) rfl (fun ls hl => ?_)
  refine lv_iload_n hx hb dX4_parseSign_3 rfl (lv_at hl 2 rfl) ?_
  refine lv_bipush (v := (48 : Int32)) hx hb dX4_parseSign_4 (by decide) ?_
  refine lv_isub hx hb dX4_parseSign_6 ?_
  refine lv_topi (fun v7 ev7 => ?_)
  have h := h v7 ev7
  refine lv_istore_n (lv' := [(3, .int v7), (2, .int (7 : Int32)), (0, .ref (a 1)), (1, .int x1)]) hx hb dX4_parseSign_7 rfl hl (by decide) rfl (fun ls hl => ?_)
  refine lv_iload_n hx hb dX4_parseSign_8 rfl (lv_at hl 3 rfl) ?_
  refine zz_goip hB hA (zz_runS (As := [.int x1]) (rest := []) hx hb hml hown zw hB zM_X4_87 (zc_X4_isLetter l D ca a I L H.size h) rfl hl.1 rfl (Nat.le_of_ble_eq_true rfl) rfl rfl ⟨Nat.le_of_ble_eq_true rfl, Nat.le_of_ble_eq_true rfl⟩ dX4_parseSign_9 ⟨Nat.le_of_ble_eq_true rfl, Nat.le_of_ble_eq_true rfl⟩) (fun r9 H locs h hB => ?_)
  refine lv_if_eq (tgt := 32) hx hb dX4_parseSign_12 (by decide) (fun c12 => ?_) (fun c12 => ?_)
  · have h := h.1 c12
    refine lv_iload_n hx hb dX4_parseSign_32 rfl (lv_at hl 3 rfl) ?_
    refine lv_bipush (v := (46 : Int32)) hx hb dX4_parseSign_33 (by decide) ?_
    refine lv_icmp_ne (tgt := 43) hx hb dX4_parseSign_35 (by decide) (fun c35 => ?_) (fun c35 => ?_)
    · have h := h.1 c35
      exact zq_X4_parseSign_43 X hA  h H locs ls hB (lv_sub hl [2, 1, 0] rfl)
    · have h := h.2 c35
      refine lv_bipush (v := (6 : Int32)) hx hb dX4_parseSign_38 (by decide) ?_
      refine lv_istore_n (lv' := [(2, .int (6 : Int32)), (3, .int v7), (0, .ref (a 1)), (1, .int x1)]) hx hb dX4_parseSign_40 rfl hl (by decide) rfl (fun ls hl => ?_)
      refine lv_iconst (v := (1 : Int32)) hx hb dX4_parseSign_41 (by decide) ?_
      refine lv_istore_n (lv' := [(3, .int (1 : Int32)), (2, .int (6 : Int32)), (0, .ref (a 1)), (1, .int x1)]) hx hb dX4_parseSign_42 rfl hl (by decide) rfl (fun ls hl => ?_)
      exact zq_X4_parseSign_43 X hA  h H locs ls hB (lv_sub hl [2, 1, 0] rfl)
  · have h := h.2 c12
    refine lv_iload_n hx hb dX4_parseSign_15 rfl (lv_at hl 3 rfl) ?_
    refine lv_bipush (v := (97 : Int32)) hx hb dX4_parseSign_16 (by decide) ?_
    refine lv_isub hx hb dX4_parseSign_18 ?_
    refine lv_topi (fun v19 ev19 => ?_)
    have h := h v19 ev19
    refine lv_istore_n (lv' := [(2, .int v19), (3, .int v7), (0, .ref (a 1)), (1, .int x1)]) hx hb dX4_parseSign_19 rfl hl (by decide) rfl (fun ls hl => ?_)
    refine lv_aload_n hx hb dX4_parseSign_20 rfl (lv_at hl 2 rfl) ?_
    refine zz_getr (k' := 3) hx hb hown zw hB zF_X4_22 zdC_1 rfl rfl dX4_parseSign_21 ?_
    refine lv_iload_n hx hb dX4_parseSign_24 rfl (lv_at hl 0 rfl) ?_
    refine zz_goip hB hA (zz_runV (As := [.int v19]) (rest := []) hx hb hml hown zw hB zM_X4_94 (zc_X2_widthOf l D ca a I L H.size zz_isX_3 h) zdC_3 rfl rfl hl.1 rfl (Nat.le_of_ble_eq_true rfl) rfl rfl ⟨Nat.le_of_ble_eq_true rfl, Nat.le_of_ble_eq_true rfl⟩ dX4_parseSign_25 ⟨Nat.le_of_ble_eq_true rfl, Nat.le_of_ble_eq_true rfl⟩) (fun r25 H locs h hB => ?_)
    refine lv_istore_n (lv' := [(3, .int r25), (2, .int v19), (0, .ref (a 1)), (1, .int x1)]) hx hb dX4_parseSign_28 rfl hl (by decide) rfl (fun ls hl => ?_)
    refine lv_goto (tgt := 43) hx hb dX4_parseSign_29 (by decide) ?_
    exact zq_X4_parseSign_43 X hA  h H locs ls hB (lv_sub hl [2, 1, 0] rfl)
theorem zc_X4_parseSign (l : Launch) (D : va_G) (ca : Nat → ClassId) (a : Nat → Nat) (I : zz_I) (L : zz_L) (sz : Nat) {x1 : Int32} {P : zz_I → zz_L → Prop}  (h : zp_X4_parseSign x1 P I L) : Met l yX4_parseSign [.code yX4_parseSign cX4_parseSign 5 none] ({ frames := 2, cells := 0, slots := 0, locals := 45 } : Room) (zz_Pre D ca zz_dC [.ref (a 1), .int x1] a I L sz) (zz_Qv D ca zz_dC (zz_A ca zz_dC a I L sz) a P) 0 0 (zz_A ca zz_dC a I L sz) :=
  zz_start (by decide) (Nat.le_of_ble_eq_true rfl) (fun p e s m below meth c X hsz hA => zq_X4_parseSign X hA  h)
def zp_X4_parseLine_28b (K28 : Int32 → zz_I → zz_L → Prop) (P : zz_I → zz_L → Prop) (x1 : Int32) (I : zz_I) (L : zz_L) : Prop := ((110 : Int32) ≤ x1 → P I L) ∧ (¬ (110 : Int32) ≤ x1 → (¬ (I 1 5) = 0 → P I L) ∧ ((I 1 5) = 0 → ((I 1 1) ≤ (I 1 4) → P I L) ∧ (¬ (I 1 1) ≤ (I 1 4) → zp_X4_peek  (fun r54 => zp_X4_parseSign r54 (fun I57 L57 => ∀ v60 : Int32, v60 = x1 + (1 : Int32) → (K28 v60 I57 L57)) I L) I L)))
set_option maxHeartbeats 4000000 in
set_option maxRecDepth 100000 in
theorem zq_X4_parseLine_28b {p : Program} {l : Launch} {e : Env} {s : State} {m : MethodId} {args : Array Value} {below : List Frame} {meth : Method} {c : Code} {D : va_G} {ca : Nat → ClassId} {A : Nat → Prop} {a : Nat → Nat} {K28 : Int32 → zz_I → zz_L → Prop} {P : zz_I → zz_L → Prop} {I : zz_I} {L : zz_L} {x1 : Int32} (X : zz_X p s m meth c cX4_parseLine RX4 none 2) (hA : ∀ q, s.heap.size ≤ q → A q)  (hK28 : ∀ (y1 : Int32) (I8 : zz_I) (L8 : zz_L), K28 y1 I8 L8 → zz_Go p l e ({ frames := 3, cells := 0, slots := 0, locals := 69 } : Room) s m args below meth c 0 0 (MQ below (zz_Qv D ca zz_dC A a P) args s 0 0 A) D ca zz_dC A 2 28 a [] [(0, .ref (a 1)), (1, .int y1)] I8 L8) (h : zp_X4_parseLine_28b K28 P x1 I L) : zz_Go p l e ({ frames := 3, cells := 0, slots := 0, locals := 69 } : Room) s m args below meth c 0 0 (MQ below (zz_Qv D ca zz_dC A a P) args s 0 0 A) D ca zz_dC A 2 28 a [] [(0, .ref (a 1)), (1, .int x1)] I L := by
  obtain ⟨hx, hb, hml, hown, zw, hr, hlocks⟩ := id X
  intro H locs ls hB hl
  unfold zp_X4_parseLine_28b at h
  refine lv_iload_n hx hb dX4_parseLine_28 rfl (lv_at hl 1 rfl) ?_
  refine lv_bipush (v := (110 : Int32)) hx hb dX4_parseLine_29 (by decide) ?_
  refine lv_icmp_ge (tgt := 66) hx hb dX4_parseLine_31 (by decide) (fun c31 => ?_) (fun c31 => ?_)
  · have h := h.1 c31
    exact zz_vret hx hb hr hlocks hB h dX4_parseLine_66
  · have h := h.2 c31
    refine lv_aload_n hx hb dX4_parseLine_34 rfl (lv_at hl 0 rfl) ?_
    refine zz_geti hx hb hown zw hB zF_X4_36 zdC_1 rfl dX4_parseLine_35 ?_
    refine lv_if_ne (tgt := 66) hx hb dX4_parseLine_38 (by decide) (fun c38 => ?_) (fun c38 => ?_)
    · have h := h.1 c38
      exact zz_vret hx hb hr hlocks hB h dX4_parseLine_66
    · have h := h.2 c38
      refine lv_aload_n hx hb dX4_parseLine_41 rfl (lv_at hl 0 rfl) ?_
      refine zz_geti hx hb hown zw hB zF_X4_33 zdC_1 rfl dX4_parseLine_42 ?_
      refine lv_aload_n hx hb dX4_parseLine_45 rfl (lv_at hl 0 rfl) ?_
      refine zz_geti hx hb hown zw hB zF_X4_15 zdC_1 rfl dX4_parseLine_46 ?_
      refine lv_icmp_ge (tgt := 66) hx hb dX4_parseLine_49 (by decide) (fun c49 => ?_) (fun c49 => ?_)
      · have h := h.1 c49
        exact zz_vret hx hb hr hlocks hB h dX4_parseLine_66
      · have h := h.2 c49
        refine lv_aload_n hx hb dX4_parseLine_52 rfl (lv_at hl 0 rfl) ?_
        refine lv_aload_n hx hb dX4_parseLine_53 rfl (lv_at hl 0 rfl) ?_
        refine zz_goip hB hA (zz_runV (As := []) (rest := [.ref (a 1)]) hx hb hml hown zw hB zM_X4_67 (zc_X4_peek l D ca a I L H.size h) zdC_1 rfl rfl hl.1 rfl (Nat.le_of_ble_eq_true rfl) rfl rfl ⟨Nat.le_of_ble_eq_true rfl, Nat.le_of_ble_eq_true rfl⟩ dX4_parseLine_54 ⟨Nat.le_of_ble_eq_true rfl, Nat.le_of_ble_eq_true rfl⟩) (fun r54 H locs h hB => ?_)
        refine zz_gov hB hA (zz_runV (As := [.int r54]) (rest := []) hx hb hml hown zw hB zM_X4_120 (zc_X4_parseSign l D ca a I L H.size h) zdC_1 rfl rfl hl.1 rfl (Nat.le_of_ble_eq_true rfl) rfl rfl ⟨Nat.le_of_ble_eq_true rfl, Nat.le_of_ble_eq_true rfl⟩ dX4_parseLine_57 ⟨Nat.le_of_ble_eq_true rfl, Nat.le_of_ble_eq_true rfl⟩) (fun I57 L57 H locs h hB => ?_)
        obtain ⟨v60, ev60⟩ : ∃ z : Int32, z = x1 + (1 : Int32) := ⟨_, rfl⟩
        have h := h v60 ev60
        refine lv_iinc (v := v60) (lv' := [(1, .int v60), (0, .ref (a 1))]) hx hb dX4_parseLine_60 hl (k := 1) rfl (by rw [ev60]; rfl) (by decide) rfl (fun ls hl => ?_)
        refine lv_goto (tgt := 28) hx hb dX4_parseLine_63 (by decide) ?_
        exact hK28 _ _ _ h H locs ls hB (lv_sub hl [1, 0] rfl)
def zp_X4_parseLine_28  (P : zz_I → zz_L → Prop) (x1 : Int32) (I : zz_I) (L : zz_L) : Prop := ∃ (Inv : Int32 → zz_I → zz_L → Prop) (μ : Int32 → zz_I → zz_L → Nat), Inv x1 I L ∧ ∀ (y1 : Int32) (I8 : zz_I) (L8 : zz_L), Inv y1 I8 L8 → zp_X4_parseLine_28b  (fun z1 I7 L7 => Inv z1 I7 L7 ∧ μ z1 I7 L7 < μ y1 I8 L8) P y1 I8 L8
set_option maxHeartbeats 4000000 in
set_option maxRecDepth 100000 in
theorem zq_X4_parseLine_28 {p : Program} {l : Launch} {e : Env} {s : State} {m : MethodId} {args : Array Value} {below : List Frame} {meth : Method} {c : Code} {D : va_G} {ca : Nat → ClassId} {A : Nat → Prop} {a : Nat → Nat}  {P : zz_I → zz_L → Prop} {I : zz_I} {L : zz_L} {x1 : Int32} (X : zz_X p s m meth c cX4_parseLine RX4 none 2) (hA : ∀ q, s.heap.size ≤ q → A q)   (h : zp_X4_parseLine_28  P x1 I L) : zz_Go p l e ({ frames := 3, cells := 0, slots := 0, locals := 69 } : Room) s m args below meth c 0 0 (MQ below (zz_Qv D ca zz_dC A a P) args s 0 0 A) D ca zz_dC A 2 28 a [] [(0, .ref (a 1)), (1, .int x1)] I L := by
  unfold zp_X4_parseLine_28 at h
  obtain ⟨Inv, μ, hv0, hs⟩ := h
  have key : ∀ (n9 : Nat) (y1 : Int32) (I8 : zz_I) (L8 : zz_L), μ y1 I8 L8 < n9 → Inv y1 I8 L8 → zz_Go p l e ({ frames := 3, cells := 0, slots := 0, locals := 69 } : Room) s m args below meth c 0 0 (MQ below (zz_Qv D ca zz_dC A a P) args s 0 0 A) D ca zz_dC A 2 28 a [] [(0, .ref (a 1)), (1, .int y1)] I8 L8 := by
    intro n9
    induction n9 with
    | zero => intro y1 I8 L8 hn; exact absurd hn (Nat.not_lt_zero _)
    | succ n9 ih =>
      intro y1 I8 L8 hn hi
      exact zq_X4_parseLine_28b (K28 := (fun z1 I7 L7 => Inv z1 I7 L7 ∧ μ z1 I7 L7 < μ y1 I8 L8)) X hA   (fun z1 I7 L7 hz => ih z1 I7 L7 (Nat.lt_of_lt_of_le hz.2 (Nat.le_of_lt_succ hn)) hz.1) (hs y1 I8 L8 hi)
  exact key _ x1 I L (Nat.lt_succ_self _) hv0
def zp_X4_parseLine  (P : zz_I → zz_L → Prop) (I : zz_I) (L : zz_L) : Prop := ∀ I7 : zz_I, I7 = zz_up I 1 4 ((I 1 4) + (1 : Int32)) → (((I7 1 4) < (I7 1 1) → zp_X4_parseLine_28 P (0 : Int32) I7 L) ∧ (¬ (I7 1 4) < (I7 1 1) → ∀ I23 : zz_I, I23 = zz_up I7 1 5 (1 : Int32) → (zp_X4_parseLine_28 P (0 : Int32) I23 L)))
set_option maxHeartbeats 4000000 in
set_option maxRecDepth 100000 in
theorem zq_X4_parseLine {p : Program} {l : Launch} {e : Env} {s : State} {m : MethodId} {args : Array Value} {below : List Frame} {meth : Method} {c : Code} {D : va_G} {ca : Nat → ClassId} {A : Nat → Prop} {a : Nat → Nat}  {P : zz_I → zz_L → Prop} {I : zz_I} {L : zz_L}  (X : zz_X p s m meth c cX4_parseLine RX4 none 2) (hA : ∀ q, s.heap.size ≤ q → A q)   (h : zp_X4_parseLine  P I L) : zz_Go p l e ({ frames := 3, cells := 0, slots := 0, locals := 69 } : Room) s m args below meth c 0 0 (MQ below (zz_Qv D ca zz_dC A a P) args s 0 0 A) D ca zz_dC A 2 0 a [] [(0, .ref (a 1))] I L := by
  obtain ⟨hx, hb, hml, hown, zw, hr, hlocks⟩ := id X
  intro H locs ls hB hl
  unfold zp_X4_parseLine at h
  refine lv_aload_n hx hb dX4_parseLine_0 rfl (lv_at hl 0 rfl) ?_
  refine lv_dup hx hb dX4_parseLine_1 rfl ?_
  refine zz_geti hx hb hown zw hB zF_X4_33 zdC_1 rfl dX4_parseLine_2 ?_
  refine lv_iconst (v := (1 : Int32)) hx hb dX4_parseLine_5 (by decide) ?_
  refine lv_iadd hx hb dX4_parseLine_6 ?_
  refine zz_puti hx hb hown zw hB zP_X4_33 zdC_1 rfl dX4_parseLine_7 (fun H locs hB => ?_)
  obtain ⟨I7, eI7⟩ : ∃ z : zz_I, z = zz_up I 1 4 ((I 1 4) + (1 : Int32)) := ⟨_, rfl⟩
  rw [← eI7] at hB
  have h := h I7 eI7
  refine lv_aload_n hx hb dX4_parseLine_10 rfl (lv_at hl 0 rfl) ?_
  refine zz_geti hx hb hown zw hB zF_X4_33 zdC_1 rfl dX4_parseLine_11 ?_
  refine lv_aload_n hx hb dX4_parseLine_14 rfl (lv_at hl 0 rfl) ?_
  refine zz_geti hx hb hown zw hB zF_X4_15 zdC_1 rfl dX4_parseLine_15 ?_
  refine lv_icmp_lt (tgt := 26) hx hb dX4_parseLine_18 (by decide) (fun c18 => ?_) (fun c18 => ?_)
  · have h := h.1 c18
    refine lv_iconst (v := (0 : Int32)) hx hb dX4_parseLine_26 (by decide) ?_
    refine lv_istore_n (lv' := [(1, .int (0 : Int32)), (0, .ref (a 1))]) hx hb dX4_parseLine_27 rfl hl (by decide) rfl (fun ls hl => ?_)
    exact zq_X4_parseLine_28 X hA  h H locs ls hB (lv_sub hl [1, 0] rfl)
  · have h := h.2 c18
    refine lv_aload_n hx hb dX4_parseLine_21 rfl (lv_at hl 0 rfl) ?_
    refine lv_iconst (v := (1 : Int32)) hx hb dX4_parseLine_22 (by decide) ?_
    refine zz_putz hx hb hown zw hB zP_X4_36 zz_bool1 zdC_1 rfl dX4_parseLine_23 (fun H locs hB => ?_)
    obtain ⟨I23, eI23⟩ : ∃ z : zz_I, z = zz_up I7 1 5 (1 : Int32) := ⟨_, rfl⟩
    rw [← eI23] at hB
    have h := h I23 eI23
    refine lv_iconst (v := (0 : Int32)) hx hb dX4_parseLine_26 (by decide) ?_
    refine lv_istore_n (lv' := [(1, .int (0 : Int32)), (0, .ref (a 1))]) hx hb dX4_parseLine_27 rfl hl (by decide) rfl (fun ls hl => ?_)
    exact zq_X4_parseLine_28 X hA  h H locs ls hB (lv_sub hl [1, 0] rfl)
theorem zc_X4_parseLine (l : Launch) (D : va_G) (ca : Nat → ClassId) (a : Nat → Nat) (I : zz_I) (L : zz_L) (sz : Nat)  {P : zz_I → zz_L → Prop}  (h : zp_X4_parseLine  P I L) : Met l yX4_parseLine [.code yX4_parseLine cX4_parseLine 2 none] ({ frames := 3, cells := 0, slots := 0, locals := 69 } : Room) (zz_Pre D ca zz_dC [.ref (a 1)] a I L sz) (zz_Qv D ca zz_dC (zz_A ca zz_dC a I L sz) a P) 0 0 (zz_A ca zz_dC a I L sz) :=
  zz_start (by decide) (Nat.le_of_ble_eq_true rfl) (fun p e s m below meth c X hsz hA => zq_X4_parseLine X hA  h)
def zp_X4_parsePart  (P : zz_I → zz_L → Prop) (I : zz_I) (L : zz_L) : Prop := zp_X4_peek  (fun r1 => (r1 = (100 : Int32) → zp_X4_parseWord  (fun I41 L41 => P I41 L41) I L) ∧ (r1 = (108 : Int32) → zp_X4_parseLine  (fun I55 L55 => P I55 L55) I L) ∧ (r1 = (114 : Int32) → zp_X4_parseRule  (fun I48 L48 => P I48 L48) I L) ∧ (¬ r1 = (100 : Int32) → ¬ r1 = (108 : Int32) → ¬ r1 = (114 : Int32) → ∀ I63 : zz_I, I63 = zz_up I 1 5 (1 : Int32) → (P I63 L))) I L
set_option maxHeartbeats 4000000 in
set_option maxRecDepth 100000 in
theorem zq_X4_parsePart {p : Program} {l : Launch} {e : Env} {s : State} {m : MethodId} {args : Array Value} {below : List Frame} {meth : Method} {c : Code} {D : va_G} {ca : Nat → ClassId} {A : Nat → Prop} {a : Nat → Nat}  {P : zz_I → zz_L → Prop} {I : zz_I} {L : zz_L}  (X : zz_X p s m meth c cX4_parsePart RX4 none 1) (hA : ∀ q, s.heap.size ≤ q → A q)   (h : zp_X4_parsePart  P I L) : zz_Go p l e ({ frames := 4, cells := 0, slots := 0, locals := 90 } : Room) s m args below meth c 0 0 (MQ below (zz_Qv D ca zz_dC A a P) args s 0 0 A) D ca zz_dC A 1 0 a [] [(0, .ref (a 1))] I L := by
  obtain ⟨hx, hb, hml, hown, zw, hr, hlocks⟩ := id X
  intro H locs ls hB hl
  unfold zp_X4_parsePart at h
  refine lv_aload_n hx hb dX4_parsePart_0 rfl (lv_at hl 0 rfl) ?_
  refine zz_goip hB hA (zz_runV (As := []) (rest := []) hx hb hml hown zw hB zM_X4_67 (zc_X4_peek l D ca a I L H.size h) zdC_1 rfl rfl hl.1 rfl (Nat.le_of_ble_eq_true rfl) rfl rfl ⟨Nat.le_of_ble_eq_true rfl, Nat.le_of_ble_eq_true rfl⟩ dX4_parsePart_1 ⟨Nat.le_of_ble_eq_true rfl, Nat.le_of_ble_eq_true rfl⟩) (fun r1 H locs h hB => ?_)
  by_cases q4_100 : r1 = (100 : Int32)
  · have h := h.1 q4_100
    refine lv_lookup (tgt := 40) hx hb dX4_parsePart_4 (by decide) (by rw [q4_100] <;> rfl) (by decide) ?_
    refine lv_aload_n hx hb dX4_parsePart_40 rfl (lv_at hl 0 rfl) ?_
    refine zz_gov hB hA (zz_runV (As := []) (rest := []) hx hb hml hown zw hB zM_X4_78 (zc_X4_parseWord l D ca a I L H.size h) zdC_1 rfl rfl hl.1 rfl (Nat.le_of_ble_eq_true rfl) rfl rfl ⟨Nat.le_of_ble_eq_true rfl, Nat.le_of_ble_eq_true rfl⟩ dX4_parsePart_41 ⟨Nat.le_of_ble_eq_true rfl, Nat.le_of_ble_eq_true rfl⟩) (fun I41 L41 H locs h hB => ?_)
    refine lv_goto (tgt := 66) hx hb dX4_parsePart_44 (by decide) ?_
    exact zz_vret hx hb hr hlocks hB h dX4_parsePart_66
  by_cases q4_108 : r1 = (108 : Int32)
  · have h := h.2.1 q4_108
    refine lv_lookup (tgt := 54) hx hb dX4_parsePart_4 (by decide) (by rw [q4_108] <;> rfl) (by decide) ?_
    refine lv_aload_n hx hb dX4_parsePart_54 rfl (lv_at hl 0 rfl) ?_
    refine zz_gov hB hA (zz_runV (As := []) (rest := []) hx hb hml hown zw hB zM_X4_84 (zc_X4_parseLine l D ca a I L H.size h) zdC_1 rfl rfl hl.1 rfl (Nat.le_of_ble_eq_true rfl) rfl rfl ⟨Nat.le_of_ble_eq_true rfl, Nat.le_of_ble_eq_true rfl⟩ dX4_parsePart_55 ⟨Nat.le_of_ble_eq_true rfl, Nat.le_of_ble_eq_true rfl⟩) (fun I55 L55 H locs h hB => ?_)
    refine lv_goto (tgt := 66) hx hb dX4_parsePart_58 (by decide) ?_
    exact zz_vret hx hb hr hlocks hB h dX4_parsePart_66
  by_cases q4_114 : r1 = (114 : Int32)
  · have h := h.2.2.1 q4_114
    refine lv_lookup (tgt := 47) hx hb dX4_parsePart_4 (by decide) (by rw [q4_114] <;> rfl) (by decide) ?_
    refine lv_aload_n hx hb dX4_parsePart_47 rfl (lv_at hl 0 rfl) ?_
    refine zz_gov hB hA (zz_runV (As := []) (rest := []) hx hb hml hown zw hB zM_X4_81 (zc_X4_parseRule l D ca a I L H.size h) zdC_1 rfl rfl hl.1 rfl (Nat.le_of_ble_eq_true rfl) rfl rfl ⟨Nat.le_of_ble_eq_true rfl, Nat.le_of_ble_eq_true rfl⟩ dX4_parsePart_48 ⟨Nat.le_of_ble_eq_true rfl, Nat.le_of_ble_eq_true rfl⟩) (fun I48 L48 H locs h hB => ?_)
    refine lv_goto (tgt := 66) hx hb dX4_parsePart_51 (by decide) ?_
    exact zz_vret hx hb hr hlocks hB h dX4_parsePart_66
  have h := h.2.2.2 q4_100 q4_108 q4_114
  refine lv_lookup (off := 57) (tgt := 61) hx hb dX4_parsePart_4 (by decide) ((lv_osw q4_100 rfl).trans ((lv_osw q4_108 rfl).trans ((lv_osw q4_114 rfl).trans (rfl)))) (by decide) ?_
  refine lv_aload_n hx hb dX4_parsePart_61 rfl (lv_at hl 0 rfl) ?_
  refine lv_iconst (v := (1 : Int32)) hx hb dX4_parsePart_62 (by decide) ?_
  refine zz_putz hx hb hown zw hB zP_X4_36 zz_bool1 zdC_1 rfl dX4_parsePart_63 (fun H locs hB => ?_)
  obtain ⟨I63, eI63⟩ : ∃ z : zz_I, z = zz_up I 1 5 (1 : Int32) := ⟨_, rfl⟩
  rw [← eI63] at hB
  have h := h I63 eI63
  exact zz_vret hx hb hr hlocks hB h dX4_parsePart_66
theorem zc_X4_parsePart (l : Launch) (D : va_G) (ca : Nat → ClassId) (a : Nat → Nat) (I : zz_I) (L : zz_L) (sz : Nat)  {P : zz_I → zz_L → Prop}  (h : zp_X4_parsePart  P I L) : Met l yX4_parsePart [.code yX4_parsePart cX4_parsePart 1 none] ({ frames := 4, cells := 0, slots := 0, locals := 90 } : Room) (zz_Pre D ca zz_dC [.ref (a 1)] a I L sz) (zz_Qv D ca zz_dC (zz_A ca zz_dC a I L sz) a P) 0 0 (zz_A ca zz_dC a I L sz) :=
  zz_start (by decide) (Nat.le_of_ble_eq_true rfl) (fun p e s m below meth c X hsz hA => zq_X4_parsePart X hA  h)
def zp_X4_parse_90  (P : Int32 → zz_I → zz_L → Prop)  (I : zz_I) (L : zz_L) : Prop := ((I 1 5) = 0 → P (-9 : Int32) I L) ∧ (¬ (I 1 5) = 0 → P (I 1 4) I L)
set_option maxHeartbeats 4000000 in
set_option maxRecDepth 100000 in
theorem zq_X4_parse_90 {p : Program} {l : Launch} {e : Env} {s : State} {m : MethodId} {args : Array Value} {below : List Frame} {meth : Method} {c : Code} {D : va_G} {ca : Nat → ClassId} {A : Nat → Prop} {a : Nat → Nat}  {P : Int32 → zz_I → zz_L → Prop} {I : zz_I} {L : zz_L}  (X : zz_X p s m meth c cX4_parse RX4 (some .int) 2) (hA : ∀ q, s.heap.size ≤ q → A q)   (h : zp_X4_parse_90  P  I L) : zz_Go p l e ({ frames := 5, cells := 0, slots := 0, locals := 110 } : Room) s m args below meth c 0 0 (MQ below (zz_Qi D ca zz_dC A a P) args s 0 0 A) D ca zz_dC A 2 90 a [] [(0, .ref (a 1))] I L := by
  obtain ⟨hx, hb, hml, hown, zw, hr, hlocks⟩ := id X
  intro H locs ls hB hl
  unfold zp_X4_parse_90 at h
  refine lv_aload_n hx hb dX4_parse_90 rfl (lv_at hl 0 rfl) ?_
  refine zz_geti hx hb hown zw hB zF_X4_36 zdC_1 rfl dX4_parse_91 ?_
  refine lv_if_eq (tgt := 104) hx hb dX4_parse_94 (by decide) (fun c94 => ?_) (fun c94 => ?_)
  · have h := h.1 c94
    refine lv_bipush (v := (-9 : Int32)) hx hb dX4_parse_104 (by decide) ?_
    exact zz_iret hx hb hr hlocks hB h dX4_parse_106
  · have h := h.2 c94
    refine lv_aload_n hx hb dX4_parse_97 rfl (lv_at hl 0 rfl) ?_
    refine zz_geti hx hb hown zw hB zF_X4_33 zdC_1 rfl dX4_parse_98 ?_
    refine lv_goto (tgt := 106) hx hb dX4_parse_101 (by decide) ?_
    exact zz_iret hx hb hr hlocks hB h dX4_parse_106
def zp_X4_parse_56b (K56 : Int32 → zz_I → zz_L → Prop) (P : Int32 → zz_I → zz_L → Prop) (x1 : Int32) (I : zz_I) (L : zz_L) : Prop := ((110 : Int32) ≤ x1 → zp_X4_parse_90 P I L) ∧ (¬ (110 : Int32) ≤ x1 → (¬ (I 1 5) = 0 → zp_X4_parse_90 P I L) ∧ ((I 1 5) = 0 → ((I 1 1) ≤ (I 1 4) → zp_X4_parse_90 P I L) ∧ (¬ (I 1 1) ≤ (I 1 4) → zp_X4_parsePart  (fun I81 L81 => ∀ v84 : Int32, v84 = x1 + (1 : Int32) → (K56 v84 I81 L81)) I L)))
set_option maxHeartbeats 4000000 in
set_option maxRecDepth 100000 in
theorem zq_X4_parse_56b {p : Program} {l : Launch} {e : Env} {s : State} {m : MethodId} {args : Array Value} {below : List Frame} {meth : Method} {c : Code} {D : va_G} {ca : Nat → ClassId} {A : Nat → Prop} {a : Nat → Nat} {K56 : Int32 → zz_I → zz_L → Prop} {P : Int32 → zz_I → zz_L → Prop} {I : zz_I} {L : zz_L} {x1 : Int32} (X : zz_X p s m meth c cX4_parse RX4 (some .int) 2) (hA : ∀ q, s.heap.size ≤ q → A q)  (hK56 : ∀ (y1 : Int32) (I8 : zz_I) (L8 : zz_L), K56 y1 I8 L8 → zz_Go p l e ({ frames := 5, cells := 0, slots := 0, locals := 110 } : Room) s m args below meth c 0 0 (MQ below (zz_Qi D ca zz_dC A a P) args s 0 0 A) D ca zz_dC A 2 56 a [] [(0, .ref (a 1)), (1, .int y1)] I8 L8) (h : zp_X4_parse_56b K56 P x1 I L) : zz_Go p l e ({ frames := 5, cells := 0, slots := 0, locals := 110 } : Room) s m args below meth c 0 0 (MQ below (zz_Qi D ca zz_dC A a P) args s 0 0 A) D ca zz_dC A 2 56 a [] [(0, .ref (a 1)), (1, .int x1)] I L := by
  obtain ⟨hx, hb, hml, hown, zw, hr, hlocks⟩ := id X
  intro H locs ls hB hl
  unfold zp_X4_parse_56b at h
  refine lv_iload_n hx hb dX4_parse_56 rfl (lv_at hl 1 rfl) ?_
  refine lv_bipush (v := (110 : Int32)) hx hb dX4_parse_57 (by decide) ?_
  refine lv_icmp_ge (tgt := 90) hx hb dX4_parse_59 (by decide) (fun c59 => ?_) (fun c59 => ?_)
  · have h := h.1 c59
    exact zq_X4_parse_90 X hA  h H locs ls hB (lv_sub hl [0] rfl)
  · have h := h.2 c59
    refine lv_aload_n hx hb dX4_parse_62 rfl (lv_at hl 0 rfl) ?_
    refine zz_geti hx hb hown zw hB zF_X4_36 zdC_1 rfl dX4_parse_63 ?_
    refine lv_if_ne (tgt := 90) hx hb dX4_parse_66 (by decide) (fun c66 => ?_) (fun c66 => ?_)
    · have h := h.1 c66
      exact zq_X4_parse_90 X hA  h H locs ls hB (lv_sub hl [0] rfl)
    · have h := h.2 c66
      refine lv_aload_n hx hb dX4_parse_69 rfl (lv_at hl 0 rfl) ?_
      refine zz_geti hx hb hown zw hB zF_X4_33 zdC_1 rfl dX4_parse_70 ?_
      refine lv_aload_n hx hb dX4_parse_73 rfl (lv_at hl 0 rfl) ?_
      refine zz_geti hx hb hown zw hB zF_X4_15 zdC_1 rfl dX4_parse_74 ?_
      refine lv_icmp_ge (tgt := 90) hx hb dX4_parse_77 (by decide) (fun c77 => ?_) (fun c77 => ?_)
      · have h := h.1 c77
        exact zq_X4_parse_90 X hA  h H locs ls hB (lv_sub hl [0] rfl)
      · have h := h.2 c77
        refine lv_aload_n hx hb dX4_parse_80 rfl (lv_at hl 0 rfl) ?_
        refine zz_gov hB hA (zz_runV (As := []) (rest := []) hx hb hml hown zw hB zM_X4_64 (zc_X4_parsePart l D ca a I L H.size h) zdC_1 rfl rfl hl.1 rfl (Nat.le_of_ble_eq_true rfl) rfl rfl ⟨Nat.le_of_ble_eq_true rfl, Nat.le_of_ble_eq_true rfl⟩ dX4_parse_81 ⟨Nat.le_of_ble_eq_true rfl, Nat.le_of_ble_eq_true rfl⟩) (fun I81 L81 H locs h hB => ?_)
        obtain ⟨v84, ev84⟩ : ∃ z : Int32, z = x1 + (1 : Int32) := ⟨_, rfl⟩
        have h := h v84 ev84
        refine lv_iinc (v := v84) (lv' := [(1, .int v84), (0, .ref (a 1))]) hx hb dX4_parse_84 hl (k := 1) rfl (by rw [ev84]; rfl) (by decide) rfl (fun ls hl => ?_)
        refine lv_goto (tgt := 56) hx hb dX4_parse_87 (by decide) ?_
        exact hK56 _ _ _ h H locs ls hB (lv_sub hl [1, 0] rfl)
def zp_X4_parse_56  (P : Int32 → zz_I → zz_L → Prop) (x1 : Int32) (I : zz_I) (L : zz_L) : Prop := ∃ (Inv : Int32 → zz_I → zz_L → Prop) (μ : Int32 → zz_I → zz_L → Nat), Inv x1 I L ∧ ∀ (y1 : Int32) (I8 : zz_I) (L8 : zz_L), Inv y1 I8 L8 → zp_X4_parse_56b  (fun z1 I7 L7 => Inv z1 I7 L7 ∧ μ z1 I7 L7 < μ y1 I8 L8) P y1 I8 L8
set_option maxHeartbeats 4000000 in
set_option maxRecDepth 100000 in
theorem zq_X4_parse_56 {p : Program} {l : Launch} {e : Env} {s : State} {m : MethodId} {args : Array Value} {below : List Frame} {meth : Method} {c : Code} {D : va_G} {ca : Nat → ClassId} {A : Nat → Prop} {a : Nat → Nat}  {P : Int32 → zz_I → zz_L → Prop} {I : zz_I} {L : zz_L} {x1 : Int32} (X : zz_X p s m meth c cX4_parse RX4 (some .int) 2) (hA : ∀ q, s.heap.size ≤ q → A q)   (h : zp_X4_parse_56  P x1 I L) : zz_Go p l e ({ frames := 5, cells := 0, slots := 0, locals := 110 } : Room) s m args below meth c 0 0 (MQ below (zz_Qi D ca zz_dC A a P) args s 0 0 A) D ca zz_dC A 2 56 a [] [(0, .ref (a 1)), (1, .int x1)] I L := by
  unfold zp_X4_parse_56 at h
  obtain ⟨Inv, μ, hv0, hs⟩ := h
  have key : ∀ (n9 : Nat) (y1 : Int32) (I8 : zz_I) (L8 : zz_L), μ y1 I8 L8 < n9 → Inv y1 I8 L8 → zz_Go p l e ({ frames := 5, cells := 0, slots := 0, locals := 110 } : Room) s m args below meth c 0 0 (MQ below (zz_Qi D ca zz_dC A a P) args s 0 0 A) D ca zz_dC A 2 56 a [] [(0, .ref (a 1)), (1, .int y1)] I8 L8 := by
    intro n9
    induction n9 with
    | zero => intro y1 I8 L8 hn; exact absurd hn (Nat.not_lt_zero _)
    | succ n9 ih =>
      intro y1 I8 L8 hn hi
      exact zq_X4_parse_56b (K56 := (fun z1 I7 L7 => Inv z1 I7 L7 ∧ μ z1 I7 L7 < μ y1 I8 L8)) X hA   (fun z1 I7 L7 hz => ih z1 I7 L7 (Nat.lt_of_lt_of_le hz.2 (Nat.le_of_lt_succ hn)) hz.1) (hs y1 I8 L8 hi)
  exact key _ x1 I L (Nat.lt_succ_self _) hv0
def zp_X4_parse  (P : Int32 → zz_I → zz_L → Prop) (I : zz_I) (L : zz_L) : Prop := ∀ I2 : zz_I, I2 = zz_up I 1 4 (0 : Int32) → (∀ I7 : zz_I, I7 = zz_up I2 1 5 (0 : Int32) → (∀ I12 : zz_I, I12 = zz_up I7 1 6 (0 : Int32) → (∀ I20 : zz_I, I20 = zz_up I12 3 6 (0 : Int32) → (∀ I28 : zz_I, I28 = zz_up I20 10 3 (0 : Int32) → (∀ I36 : zz_I, I36 = zz_up I28 10 4 (0 : Int32) → (zp_J7_fill_53178 12 9 (1 : Int32) (fun I47 L47 => zp_X4_parseWidths  (fun I51 L51 => zp_X4_parse_56 P (0 : Int32) I51 L51) I47 L47) I36 L))))))
set_option maxHeartbeats 4000000 in
set_option maxRecDepth 100000 in
theorem zq_X4_parse {p : Program} {l : Launch} {e : Env} {s : State} {m : MethodId} {args : Array Value} {below : List Frame} {meth : Method} {c : Code} {D : va_G} {ca : Nat → ClassId} {A : Nat → Prop} {a : Nat → Nat}  {P : Int32 → zz_I → zz_L → Prop} {I : zz_I} {L : zz_L}  (X : zz_X p s m meth c cX4_parse RX4 (some .int) 2) (hA : ∀ q, s.heap.size ≤ q → A q)   (h : zp_X4_parse  P I L) : zz_Go p l e ({ frames := 5, cells := 0, slots := 0, locals := 110 } : Room) s m args below meth c 0 0 (MQ below (zz_Qi D ca zz_dC A a P) args s 0 0 A) D ca zz_dC A 2 0 a [] [(0, .ref (a 1))] I L := by
  obtain ⟨hx, hb, hml, hown, zw, hr, hlocks⟩ := id X
  intro H locs ls hB hl
  unfold zp_X4_parse at h
  refine lv_aload_n hx hb dX4_parse_0 rfl (lv_at hl 0 rfl) ?_
  refine lv_iconst (v := (0 : Int32)) hx hb dX4_parse_1 (by decide) ?_
  refine zz_puti hx hb hown zw hB zP_X4_33 zdC_1 rfl dX4_parse_2 (fun H locs hB => ?_)
  obtain ⟨I2, eI2⟩ : ∃ z : zz_I, z = zz_up I 1 4 (0 : Int32) := ⟨_, rfl⟩
  rw [← eI2] at hB
  have h := h I2 eI2
  refine lv_aload_n hx hb dX4_parse_5 rfl (lv_at hl 0 rfl) ?_
  refine lv_iconst (v := (0 : Int32)) hx hb dX4_parse_6 (by decide) ?_
  refine zz_putz hx hb hown zw hB zP_X4_36 zz_bool0 zdC_1 rfl dX4_parse_7 (fun H locs hB => ?_)
  obtain ⟨I7, eI7⟩ : ∃ z : zz_I, z = zz_up I2 1 5 (0 : Int32) := ⟨_, rfl⟩
  rw [← eI7] at hB
  have h := h I7 eI7
  refine lv_aload_n hx hb dX4_parse_10 rfl (lv_at hl 0 rfl) ?_
  refine lv_iconst (v := (0 : Int32)) hx hb dX4_parse_11 (by decide) ?_
  refine zz_puti hx hb hown zw hB zP_X4_40 zdC_1 rfl dX4_parse_12 (fun H locs hB => ?_)
  obtain ⟨I12, eI12⟩ : ∃ z : zz_I, z = zz_up I7 1 6 (0 : Int32) := ⟨_, rfl⟩
  rw [← eI12] at hB
  have h := h I12 eI12
  refine lv_aload_n hx hb dX4_parse_15 rfl (lv_at hl 0 rfl) ?_
  refine zz_getr (k' := 3) hx hb hown zw hB zF_X4_22 zdC_1 rfl rfl dX4_parse_16 ?_
  refine lv_iconst (v := (0 : Int32)) hx hb dX4_parse_19 (by decide) ?_
  refine zz_puti hx hb hown zw hB zP_X4_43 zdC_3 rfl dX4_parse_20 (fun H locs hB => ?_)
  obtain ⟨I20, eI20⟩ : ∃ z : zz_I, z = zz_up I12 3 6 (0 : Int32) := ⟨_, rfl⟩
  rw [← eI20] at hB
  have h := h I20 eI20
  refine lv_aload_n hx hb dX4_parse_23 rfl (lv_at hl 0 rfl) ?_
  refine zz_getr (k' := 10) hx hb hown zw hB zF_X4_29 zdC_1 rfl rfl dX4_parse_24 ?_
  refine lv_iconst (v := (0 : Int32)) hx hb dX4_parse_27 (by decide) ?_
  refine zz_puti hx hb hown zw hB zP_X4_46 zdC_10 rfl dX4_parse_28 (fun H locs hB => ?_)
  obtain ⟨I28, eI28⟩ : ∃ z : zz_I, z = zz_up I20 10 3 (0 : Int32) := ⟨_, rfl⟩
  rw [← eI28] at hB
  have h := h I28 eI28
  refine lv_aload_n hx hb dX4_parse_31 rfl (lv_at hl 0 rfl) ?_
  refine zz_getr (k' := 10) hx hb hown zw hB zF_X4_29 zdC_1 rfl rfl dX4_parse_32 ?_
  refine lv_iconst (v := (0 : Int32)) hx hb dX4_parse_35 (by decide) ?_
  refine zz_puti hx hb hown zw hB zP_X4_49 zdC_10 rfl dX4_parse_36 (fun H locs hB => ?_)
  obtain ⟨I36, eI36⟩ : ∃ z : zz_I, z = zz_up I28 10 4 (0 : Int32) := ⟨_, rfl⟩
  rw [← eI36] at hB
  have h := h I36 eI36
  refine lv_aload_n hx hb dX4_parse_39 rfl (lv_at hl 0 rfl) ?_
  refine zz_getr (k' := 10) hx hb hown zw hB zF_X4_29 zdC_1 rfl rfl dX4_parse_40 ?_
  refine zz_getr (k' := 12) hx hb hown zw hB zF_X4_52 zdC_10 rfl rfl dX4_parse_43 ?_
  refine lv_iconst (v := (1 : Int32)) hx hb dX4_parse_46 (by decide) ?_
  refine zz_gov hB hA (zz_runS (As := [.ref (a 12), .int (1 : Int32)]) (rest := []) hx hb hml hown zw hB zM_X4_55 (zc_J7_fill_53178 l D ca a I36 L H.size zdC_12 h) rfl hl.1 rfl (Nat.le_of_ble_eq_true rfl) rfl rfl ⟨Nat.le_of_ble_eq_true rfl, Nat.le_of_ble_eq_true rfl⟩ dX4_parse_47 ⟨Nat.le_of_ble_eq_true rfl, Nat.le_of_ble_eq_true rfl⟩) (fun I47 L47 H locs h hB => ?_)
  refine lv_aload_n hx hb dX4_parse_50 rfl (lv_at hl 0 rfl) ?_
  refine zz_gov hB hA (zz_runV (As := []) (rest := []) hx hb hml hown zw hB zM_X4_61 (zc_X4_parseWidths l D ca a I47 L47 H.size h) zdC_1 rfl rfl hl.1 rfl (Nat.le_of_ble_eq_true rfl) rfl rfl ⟨Nat.le_of_ble_eq_true rfl, Nat.le_of_ble_eq_true rfl⟩ dX4_parse_51 ⟨Nat.le_of_ble_eq_true rfl, Nat.le_of_ble_eq_true rfl⟩) (fun I51 L51 H locs h hB => ?_)
  refine lv_iconst (v := (0 : Int32)) hx hb dX4_parse_54 (by decide) ?_
  refine lv_istore_n (lv' := [(1, .int (0 : Int32)), (0, .ref (a 1))]) hx hb dX4_parse_55 rfl hl (by decide) rfl (fun ls hl => ?_)
  exact zq_X4_parse_56 X hA  h H locs ls hB (lv_sub hl [1, 0] rfl)
theorem zc_X4_parse (l : Launch) (D : va_G) (ca : Nat → ClassId) (a : Nat → Nat) (I : zz_I) (L : zz_L) (sz : Nat)  {P : Int32 → zz_I → zz_L → Prop}  (h : zp_X4_parse  P I L) : Met l yX4_parse [.code yX4_parse cX4_parse 2 (some .int)] ({ frames := 5, cells := 0, slots := 0, locals := 110 } : Room) (zz_Pre D ca zz_dC [.ref (a 1)] a I L sz) (zz_Qi D ca zz_dC (zz_A ca zz_dC a I L sz) a P) 0 0 (zz_A ca zz_dC a I L sz) :=
  zz_start (by decide) (Nat.le_of_ble_eq_true rfl) (fun p e s m below meth c X hsz hA => zq_X4_parse X hA  h)
def zp_X5_append (x1 : Int32) (x2 : Int32) (x3 : Int32) (P : zz_I → zz_L → Prop) (I : zz_I) (L : zz_L) : Prop := ((I 33 3) < 0 → P I L) ∧ (¬ (I 33 3) < 0 → ((6 : Int32) ≤ (I 33 3) → P I L) ∧ (¬ (6 : Int32) ≤ (I 33 3) → vp_in (I 33 3) 6 ∧ (∀ I25 : zz_I, I25 = zz_up I 34 (I 33 3).toNatClampNeg x1 → (vp_in (I25 33 3) 6 ∧ (∀ I35 : zz_I, I35 = zz_up I25 35 (I25 33 3).toNatClampNeg x2 → (vp_in (I35 33 3) 6 ∧ (∀ I45 : zz_I, I45 = zz_up I35 36 (I35 33 3).toNatClampNeg (vp_nar .boolean x3) → (∀ I53 : zz_I, I53 = zz_up I45 33 3 ((I45 33 3) + (1 : Int32)) → (P I53 L)))))))))
set_option maxHeartbeats 4000000 in
set_option maxRecDepth 100000 in
theorem zq_X5_append {p : Program} {l : Launch} {e : Env} {s : State} {m : MethodId} {args : Array Value} {below : List Frame} {meth : Method} {c : Code} {D : va_G} {ca : Nat → ClassId} {A : Nat → Prop} {a : Nat → Nat}  {P : zz_I → zz_L → Prop} {I : zz_I} {L : zz_L} {x1 : Int32} {x2 : Int32} {x3 : Int32} (X : zz_X p s m meth c cX5_append RX5 none 4) (hA : ∀ q, s.heap.size ≤ q → A q)   (h : zp_X5_append x1 x2 x3 P I L) : zz_Go p l e ({ frames := 0, cells := 0, slots := 0, locals := 0 } : Room) s m args below meth c 0 0 (MQ below (zz_Qv D ca zz_dC A a P) args s 0 0 A) D ca zz_dC A 4 0 a [] [(0, .ref (a 33)), (1, .int x1), (2, .int x2), (3, .int x3)] I L := by
  obtain ⟨hx, hb, hml, hown, zw, hr, hlocks⟩ := id X
  intro H locs ls hB hl
  unfold zp_X5_append at h
  refine lv_aload_n hx hb dX5_append_0 rfl (lv_at hl 0 rfl) ?_
  refine zz_geti hx hb hown zw hB zF_X5_22 zdC_33 rfl dX5_append_1 ?_
  refine lv_if_lt (tgt := 56) hx hb dX5_append_4 (by decide) (fun c4 => ?_) (fun c4 => ?_)
  · have h := h.1 c4
    exact zz_vret hx hb hr hlocks hB h dX5_append_56
  · have h := h.2 c4
    refine lv_aload_n hx hb dX5_append_7 rfl (lv_at hl 0 rfl) ?_
    refine zz_geti hx hb hown zw hB zF_X5_22 zdC_33 rfl dX5_append_8 ?_
    refine lv_bipush (v := (6 : Int32)) hx hb dX5_append_11 (by decide) ?_
    refine lv_icmp_ge (tgt := 56) hx hb dX5_append_13 (by decide) (fun c13 => ?_) (fun c13 => ?_)
    · have h := h.1 c13
      exact zz_vret hx hb hr hlocks hB h dX5_append_56
    · have h := h.2 c13
      refine lv_aload_n hx hb dX5_append_16 rfl (lv_at hl 0 rfl) ?_
      refine zz_getr (k' := 34) hx hb hown zw hB zF_X5_9 zdC_33 rfl rfl dX5_append_17 ?_
      refine lv_aload_n hx hb dX5_append_20 rfl (lv_at hl 0 rfl) ?_
      refine zz_geti hx hb hown zw hB zF_X5_22 zdC_33 rfl dX5_append_21 ?_
      refine lv_iload_n hx hb dX5_append_24 rfl (lv_at hl 1 rfl) ?_
      obtain ⟨hi25, h⟩ := h
      refine zz_iast hx hb hB zdC_34 hi25 dX5_append_25 (fun H locs hB => ?_)
      obtain ⟨I25, eI25⟩ : ∃ z : zz_I, z = zz_up I 34 (I 33 3).toNatClampNeg x1 := ⟨_, rfl⟩
      rw [← eI25] at hB
      have h := h I25 eI25
      refine lv_aload_n hx hb dX5_append_26 rfl (lv_at hl 0 rfl) ?_
      refine zz_getr (k' := 35) hx hb hown zw hB zF_X5_15 zdC_33 rfl rfl dX5_append_27 ?_
      refine lv_aload_n hx hb dX5_append_30 rfl (lv_at hl 0 rfl) ?_
      refine zz_geti hx hb hown zw hB zF_X5_22 zdC_33 rfl dX5_append_31 ?_
      refine lv_iload_n hx hb dX5_append_34 rfl (lv_at hl 2 rfl) ?_
      obtain ⟨hi35, h⟩ := h
      refine zz_iast hx hb hB zdC_35 hi35 dX5_append_35 (fun H locs hB => ?_)
      obtain ⟨I35, eI35⟩ : ∃ z : zz_I, z = zz_up I25 35 (I25 33 3).toNatClampNeg x2 := ⟨_, rfl⟩
      rw [← eI35] at hB
      have h := h I35 eI35
      refine lv_aload_n hx hb dX5_append_36 rfl (lv_at hl 0 rfl) ?_
      refine zz_getr (k' := 36) hx hb hown zw hB zF_X5_18 zdC_33 rfl rfl dX5_append_37 ?_
      refine lv_aload_n hx hb dX5_append_40 rfl (lv_at hl 0 rfl) ?_
      refine zz_geti hx hb hown zw hB zF_X5_22 zdC_33 rfl dX5_append_41 ?_
      refine lv_iload_n hx hb dX5_append_44 rfl (lv_at hl 3 rfl) ?_
      obtain ⟨hi45, h⟩ := h
      refine zz_zast hx hb hB zdC_36 hi45 dX5_append_45 (fun H locs hB => ?_)
      obtain ⟨I45, eI45⟩ : ∃ z : zz_I, z = zz_up I35 36 (I35 33 3).toNatClampNeg (vp_nar .boolean x3) := ⟨_, rfl⟩
      rw [← eI45] at hB
      have h := h I45 eI45
      refine lv_aload_n hx hb dX5_append_46 rfl (lv_at hl 0 rfl) ?_
      refine lv_dup hx hb dX5_append_47 rfl ?_
      refine zz_geti hx hb hown zw hB zF_X5_22 zdC_33 rfl dX5_append_48 ?_
      refine lv_iconst (v := (1 : Int32)) hx hb dX5_append_51 (by decide) ?_
      refine lv_iadd hx hb dX5_append_52 ?_
      refine zz_puti hx hb hown zw hB zP_X5_22 zdC_33 rfl dX5_append_53 (fun H locs hB => ?_)
      obtain ⟨I53, eI53⟩ : ∃ z : zz_I, z = zz_up I45 33 3 ((I45 33 3) + (1 : Int32)) := ⟨_, rfl⟩
      rw [← eI53] at hB
      have h := h I53 eI53
      exact zz_vret hx hb hr hlocks hB h dX5_append_56
theorem zc_X5_append (l : Launch) (D : va_G) (ca : Nat → ClassId) (a : Nat → Nat) (I : zz_I) (L : zz_L) (sz : Nat) {x1 : Int32} {x2 : Int32} {x3 : Int32} {P : zz_I → zz_L → Prop}  (h : zp_X5_append x1 x2 x3 P I L) : Met l yX5_append [.code yX5_append cX5_append 4 none] ({ frames := 0, cells := 0, slots := 0, locals := 0 } : Room) (zz_Pre D ca zz_dC [.ref (a 33), .int x1, .int x2, .int x3] a I L sz) (zz_Qv D ca zz_dC (zz_A ca zz_dC a I L sz) a P) 0 0 (zz_A ca zz_dC a I L sz) :=
  zz_start (by decide) (Nat.le_of_ble_eq_true rfl) (fun p e s m below meth c X hsz hA => zq_X5_append X hA  h)
def zp_X6_copyFrom (k0 : Nat) (k1 : Nat) (P : zz_I → zz_L → Prop) (I : zz_I) (L : zz_L) : Prop := ∀ I12 : zz_I, I12 = zz_cp I (k1 + 1) (k0 + 1) 24 → (∀ I27 : zz_I, I27 = zz_cp I12 (k1 + 2) (k0 + 2) 9 → (∀ I42 : zz_I, I42 = zz_cp I27 (k1 + 3) (k0 + 3) 8 → (∀ I50 : zz_I, I50 = zz_up I42 k0 3 (I42 k1 3) → (∀ I58 : zz_I, I58 = zz_up I50 k0 4 (I50 k1 4) → (P I58 L)))))
set_option maxHeartbeats 4000000 in
set_option maxRecDepth 100000 in
theorem zq_X6_copyFrom {p : Program} {l : Launch} {e : Env} {s : State} {m : MethodId} {args : Array Value} {below : List Frame} {meth : Method} {c : Code} {D : va_G} {ca : Nat → ClassId} {A : Nat → Prop} {a : Nat → Nat}  {P : zz_I → zz_L → Prop} {I : zz_I} {L : zz_L} {k0 : Nat} {k1 : Nat} (X : zz_X p s m meth c cX6_copyFrom RX6 none 2) (hA : ∀ q, s.heap.size ≤ q → A q) (hk0 : zz_isT k0) (hk1 : zz_isT k1)  (h : zp_X6_copyFrom k0 k1 P I L) : zz_Go p l e ({ frames := 1, cells := 0, slots := 0, locals := 40 } : Room) s m args below meth c 0 0 (MQ below (zz_Qv D ca zz_dC A a P) args s 0 0 A) D ca zz_dC A 2 0 a [] [(0, .ref (a k0)), (1, .ref (a k1))] I L := by
  obtain ⟨hx, hb, hml, hown, zw, hr, hlocks⟩ := id X
  intro H locs ls hB hl
  unfold zp_X6_copyFrom at h
  refine lv_aload_n hx hb dX6_copyFrom_0 rfl (lv_at hl 1 rfl) ?_
  refine zz_getr (k' := k1 + 1) hx hb hown zw hB zF_X6_9 hk1.1 rfl rfl dX6_copyFrom_1 ?_
  refine lv_iconst (v := (0 : Int32)) hx hb dX6_copyFrom_4 (by decide) ?_
  refine lv_aload_n hx hb dX6_copyFrom_5 rfl (lv_at hl 0 rfl) ?_
  refine zz_getr (k' := k0 + 1) hx hb hown zw hB zF_X6_9 hk0.1 rfl rfl dX6_copyFrom_6 ?_
  refine lv_iconst (v := (0 : Int32)) hx hb dX6_copyFrom_9 (by decide) ?_
  refine lv_bipush (v := (24 : Int32)) hx hb dX6_copyFrom_10 (by decide) ?_
  refine zz_copy (nn := 24) hx hb (hml.trans hl.1.symm) hown zw zk_X6_acp hB hk1.2.1 hk0.2.1 rfl (Nat.le_of_ble_eq_true rfl) (Nat.le_of_ble_eq_true rfl) (Nat.le_of_ble_eq_true rfl) (Nat.le_of_ble_eq_true rfl) (Nat.le_of_ble_eq_true rfl) dX6_copyFrom_12 (fun H locs hB => ?_)
  obtain ⟨I12, eI12⟩ : ∃ z : zz_I, z = zz_cp I (k1 + 1) (k0 + 1) 24 := ⟨_, rfl⟩
  rw [← eI12] at hB
  have h := h I12 eI12
  refine lv_aload_n hx hb dX6_copyFrom_15 rfl (lv_at hl 1 rfl) ?_
  refine zz_getr (k' := k1 + 2) hx hb hown zw hB zF_X6_15 hk1.1 rfl rfl dX6_copyFrom_16 ?_
  refine lv_iconst (v := (0 : Int32)) hx hb dX6_copyFrom_19 (by decide) ?_
  refine lv_aload_n hx hb dX6_copyFrom_20 rfl (lv_at hl 0 rfl) ?_
  refine zz_getr (k' := k0 + 2) hx hb hown zw hB zF_X6_15 hk0.1 rfl rfl dX6_copyFrom_21 ?_
  refine lv_iconst (v := (0 : Int32)) hx hb dX6_copyFrom_24 (by decide) ?_
  refine lv_bipush (v := (9 : Int32)) hx hb dX6_copyFrom_25 (by decide) ?_
  refine zz_copy (nn := 9) hx hb (hml.trans hl.1.symm) hown zw zk_X6_acp hB hk1.2.2.1 hk0.2.2.1 rfl (Nat.le_of_ble_eq_true rfl) (Nat.le_of_ble_eq_true rfl) (Nat.le_of_ble_eq_true rfl) (Nat.le_of_ble_eq_true rfl) (Nat.le_of_ble_eq_true rfl) dX6_copyFrom_27 (fun H locs hB => ?_)
  obtain ⟨I27, eI27⟩ : ∃ z : zz_I, z = zz_cp I12 (k1 + 2) (k0 + 2) 9 := ⟨_, rfl⟩
  rw [← eI27] at hB
  have h := h I27 eI27
  refine lv_aload_n hx hb dX6_copyFrom_30 rfl (lv_at hl 1 rfl) ?_
  refine zz_getr (k' := k1 + 3) hx hb hown zw hB zF_X6_18 hk1.1 rfl rfl dX6_copyFrom_31 ?_
  refine lv_iconst (v := (0 : Int32)) hx hb dX6_copyFrom_34 (by decide) ?_
  refine lv_aload_n hx hb dX6_copyFrom_35 rfl (lv_at hl 0 rfl) ?_
  refine zz_getr (k' := k0 + 3) hx hb hown zw hB zF_X6_18 hk0.1 rfl rfl dX6_copyFrom_36 ?_
  refine lv_iconst (v := (0 : Int32)) hx hb dX6_copyFrom_39 (by decide) ?_
  refine lv_bipush (v := (8 : Int32)) hx hb dX6_copyFrom_40 (by decide) ?_
  refine zz_copy (nn := 8) hx hb (hml.trans hl.1.symm) hown zw zk_X6_acp hB hk1.2.2.2 hk0.2.2.2 rfl (Nat.le_of_ble_eq_true rfl) (Nat.le_of_ble_eq_true rfl) (Nat.le_of_ble_eq_true rfl) (Nat.le_of_ble_eq_true rfl) (Nat.le_of_ble_eq_true rfl) dX6_copyFrom_42 (fun H locs hB => ?_)
  obtain ⟨I42, eI42⟩ : ∃ z : zz_I, z = zz_cp I27 (k1 + 3) (k0 + 3) 8 := ⟨_, rfl⟩
  rw [← eI42] at hB
  have h := h I42 eI42
  refine lv_aload_n hx hb dX6_copyFrom_45 rfl (lv_at hl 0 rfl) ?_
  refine lv_aload_n hx hb dX6_copyFrom_46 rfl (lv_at hl 1 rfl) ?_
  refine zz_geti hx hb hown zw hB zF_X6_21 hk1.1 rfl dX6_copyFrom_47 ?_
  refine zz_puti hx hb hown zw hB zP_X6_21 hk0.1 rfl dX6_copyFrom_50 (fun H locs hB => ?_)
  obtain ⟨I50, eI50⟩ : ∃ z : zz_I, z = zz_up I42 k0 3 (I42 k1 3) := ⟨_, rfl⟩
  rw [← eI50] at hB
  have h := h I50 eI50
  refine lv_aload_n hx hb dX6_copyFrom_53 rfl (lv_at hl 0 rfl) ?_
  refine lv_aload_n hx hb dX6_copyFrom_54 rfl (lv_at hl 1 rfl) ?_
  refine zz_geti hx hb hown zw hB zF_X6_25 hk1.1 rfl dX6_copyFrom_55 ?_
  refine zz_puti hx hb hown zw hB zP_X6_25 hk0.1 rfl dX6_copyFrom_58 (fun H locs hB => ?_)
  obtain ⟨I58, eI58⟩ : ∃ z : zz_I, z = zz_up I50 k0 4 (I50 k1 4) := ⟨_, rfl⟩
  rw [← eI58] at hB
  have h := h I58 eI58
  exact zz_vret hx hb hr hlocks hB h dX6_copyFrom_61
theorem zc_X6_copyFrom (l : Launch) (D : va_G) (ca : Nat → ClassId) (a : Nat → Nat) (I : zz_I) (L : zz_L) (sz : Nat) {k0 : Nat} {k1 : Nat} {P : zz_I → zz_L → Prop} (hk0 : zz_isT k0) (hk1 : zz_isT k1) (h : zp_X6_copyFrom k0 k1 P I L) : Met l yX6_copyFrom [.code yX6_copyFrom cX6_copyFrom 2 none] ({ frames := 1, cells := 0, slots := 0, locals := 40 } : Room) (zz_Pre D ca zz_dC [.ref (a k0), .ref (a k1)] a I L sz) (zz_Qv D ca zz_dC (zz_A ca zz_dC a I L sz) a P) 0 0 (zz_A ca zz_dC a I L sz) :=
  zz_start (by decide) (Nat.le_of_ble_eq_true rfl) (fun p e s m below meth c X hsz hA => zq_X6_copyFrom X hA hk0 hk1 h)
def zp_X6_countGaps_4b (K4 : Int32 → Int32 → Prop) (P : Int32 → Prop) (k0 : Nat) (x1 : Int32) (x2 : Int32) (I : zz_I) (L : zz_L) : Prop := ((I k0 3) ≤ x2 → P x1) ∧ (¬ (I k0 3) ≤ x2 → vp_in x2 24 ∧ ((¬ (I (k0 + 1) x2.toNatClampNeg) = (7 : Int32) → ∀ v26 : Int32, v26 = x2 + (1 : Int32) → (K4 x1 v26)) ∧ ((I (k0 + 1) x2.toNatClampNeg) = (7 : Int32) → ∀ v23 : Int32, v23 = x1 + (1 : Int32) → (∀ v26 : Int32, v26 = x2 + (1 : Int32) → (K4 v23 v26)))))
set_option maxHeartbeats 4000000 in
set_option maxRecDepth 100000 in
theorem zq_X6_countGaps_4b {p : Program} {l : Launch} {e : Env} {s : State} {m : MethodId} {args : Array Value} {below : List Frame} {meth : Method} {c : Code} {D : va_G} {ca : Nat → ClassId} {A : Nat → Prop} {a : Nat → Nat} {K4 : Int32 → Int32 → Prop} {P : Int32 → Prop} {I : zz_I} {L : zz_L} {k0 : Nat} {x1 : Int32} {x2 : Int32} (X : zz_X p s m meth c cX6_countGaps RX6 (some .int) 3) (hA : ∀ q, s.heap.size ≤ q → A q) (hk0 : zz_isT k0) (hK4 : ∀ (y1 : Int32) (y2 : Int32), K4 y1 y2 → zz_Go p l e ({ frames := 0, cells := 0, slots := 0, locals := 0 } : Room) s m args below meth c 0 0 (MQ below (zz_Qi D ca zz_dC A a (fun r I9 L9 => P r ∧ I9 = I ∧ L9 = L)) args s 0 0 A) D ca zz_dC A 3 4 a [] [(0, .ref (a k0)), (1, .int y1), (2, .int y2)] I L) (h : zp_X6_countGaps_4b K4 P k0 x1 x2 I L) : zz_Go p l e ({ frames := 0, cells := 0, slots := 0, locals := 0 } : Room) s m args below meth c 0 0 (MQ below (zz_Qi D ca zz_dC A a (fun r I9 L9 => P r ∧ I9 = I ∧ L9 = L)) args s 0 0 A) D ca zz_dC A 3 4 a [] [(0, .ref (a k0)), (1, .int x1), (2, .int x2)] I L := by
  obtain ⟨hx, hb, hml, hown, zw, hr, hlocks⟩ := id X
  intro H locs ls hB hl
  unfold zp_X6_countGaps_4b at h
  refine lv_iload_n hx hb dX6_countGaps_4 rfl (lv_at hl 2 rfl) ?_
  refine lv_aload_n hx hb dX6_countGaps_5 rfl (lv_at hl 0 rfl) ?_
  refine zz_geti hx hb hown zw hB zF_X6_21 hk0.1 rfl dX6_countGaps_6 ?_
  refine lv_icmp_ge (tgt := 32) hx hb dX6_countGaps_9 (by decide) (fun c9 => ?_) (fun c9 => ?_)
  · have h := h.1 c9
    refine lv_iload_n hx hb dX6_countGaps_32 rfl (lv_at hl 1 rfl) ?_
    exact zz_iret hx hb hr hlocks hB ⟨h, rfl, rfl⟩ dX6_countGaps_33
  · have h := h.2 c9
    refine lv_aload_n hx hb dX6_countGaps_12 rfl (lv_at hl 0 rfl) ?_
    refine zz_getr (k' := k0 + 1) hx hb hown zw hB zF_X6_9 hk0.1 rfl rfl dX6_countGaps_13 ?_
    refine lv_iload_n hx hb dX6_countGaps_16 rfl (lv_at hl 2 rfl) ?_
    obtain ⟨hi17, h⟩ := h
    refine zz_iald hx hb hB hk0.2.1 hi17 dX6_countGaps_17 ?_
    refine lv_bipush (v := (7 : Int32)) hx hb dX6_countGaps_18 (by decide) ?_
    refine lv_icmp_ne (tgt := 26) hx hb dX6_countGaps_20 (by decide) (fun c20 => ?_) (fun c20 => ?_)
    · have h := h.1 c20
      obtain ⟨v26, ev26⟩ : ∃ z : Int32, z = x2 + (1 : Int32) := ⟨_, rfl⟩
      have h := h v26 ev26
      refine lv_iinc (v := v26) (lv' := [(2, .int v26), (0, .ref (a k0)), (1, .int x1)]) hx hb dX6_countGaps_26 hl (k := 2) rfl (by rw [ev26]; rfl) (by decide) rfl (fun ls hl => ?_)
      refine lv_goto (tgt := 4) hx hb dX6_countGaps_29 (by decide) ?_
      exact hK4 _ _ h H locs ls hB (lv_sub hl [1, 2, 0] rfl)
    · have h := h.2 c20
      obtain ⟨v23, ev23⟩ : ∃ z : Int32, z = x1 + (1 : Int32) := ⟨_, rfl⟩
      have h := h v23 ev23
      refine lv_iinc (v := v23) (lv' := [(1, .int v23), (0, .ref (a k0)), (2, .int x2)]) hx hb dX6_countGaps_23 hl (k := 1) rfl (by rw [ev23]; rfl) (by decide) rfl (fun ls hl => ?_)
      obtain ⟨v26, ev26⟩ : ∃ z : Int32, z = x2 + (1 : Int32) := ⟨_, rfl⟩
      have h := h v26 ev26
      refine lv_iinc (v := v26) (lv' := [(2, .int v26), (1, .int v23), (0, .ref (a k0))]) hx hb dX6_countGaps_26 hl (k := 2) rfl (by rw [ev26]; rfl) (by decide) rfl (fun ls hl => ?_)
      refine lv_goto (tgt := 4) hx hb dX6_countGaps_29 (by decide) ?_
      exact hK4 _ _ h H locs ls hB (lv_sub hl [2, 1, 0] rfl)
def zp_X6_countGaps_4  (P : Int32 → Prop) (k0 : Nat) (x1 : Int32) (x2 : Int32) (I : zz_I) (L : zz_L) : Prop := ∃ (Inv : Int32 → Int32 → Prop) (μ : Int32 → Int32 → Nat), Inv x1 x2 ∧ ∀ (y1 : Int32) (y2 : Int32), Inv y1 y2 → zp_X6_countGaps_4b  (fun z1 z2 => Inv z1 z2 ∧ μ z1 z2 < μ y1 y2) P k0 y1 y2 I L
set_option maxHeartbeats 4000000 in
set_option maxRecDepth 100000 in
theorem zq_X6_countGaps_4 {p : Program} {l : Launch} {e : Env} {s : State} {m : MethodId} {args : Array Value} {below : List Frame} {meth : Method} {c : Code} {D : va_G} {ca : Nat → ClassId} {A : Nat → Prop} {a : Nat → Nat}  {P : Int32 → Prop} {I : zz_I} {L : zz_L} {k0 : Nat} {x1 : Int32} {x2 : Int32} (X : zz_X p s m meth c cX6_countGaps RX6 (some .int) 3) (hA : ∀ q, s.heap.size ≤ q → A q) (hk0 : zz_isT k0)  (h : zp_X6_countGaps_4  P k0 x1 x2 I L) : zz_Go p l e ({ frames := 0, cells := 0, slots := 0, locals := 0 } : Room) s m args below meth c 0 0 (MQ below (zz_Qi D ca zz_dC A a (fun r I9 L9 => P r ∧ I9 = I ∧ L9 = L)) args s 0 0 A) D ca zz_dC A 3 4 a [] [(0, .ref (a k0)), (1, .int x1), (2, .int x2)] I L := by
  unfold zp_X6_countGaps_4 at h
  obtain ⟨Inv, μ, hv0, hs⟩ := h
  have key : ∀ (n9 : Nat) (y1 : Int32) (y2 : Int32), μ y1 y2 < n9 → Inv y1 y2 → zz_Go p l e ({ frames := 0, cells := 0, slots := 0, locals := 0 } : Room) s m args below meth c 0 0 (MQ below (zz_Qi D ca zz_dC A a (fun r I9 L9 => P r ∧ I9 = I ∧ L9 = L)) args s 0 0 A) D ca zz_dC A 3 4 a [] [(0, .ref (a k0)), (1, .int y1), (2, .int y2)] I L := by
    intro n9
    induction n9 with
    | zero => intro y1 y2 hn; exact absurd hn (Nat.not_lt_zero _)
    | succ n9 ih =>
      intro y1 y2 hn hi
      exact zq_X6_countGaps_4b (K4 := (fun z1 z2 => Inv z1 z2 ∧ μ z1 z2 < μ y1 y2)) X hA hk0  (fun z1 z2 hz => ih z1 z2 (Nat.lt_of_lt_of_le hz.2 (Nat.le_of_lt_succ hn)) hz.1) (hs y1 y2 hi)
  exact key _ x1 x2 (Nat.lt_succ_self _) hv0
def zp_X6_countGaps (k0 : Nat) (P : Int32 → Prop) (I : zz_I) (L : zz_L) : Prop := zp_X6_countGaps_4 P k0 (0 : Int32) (0 : Int32) I L
set_option maxHeartbeats 4000000 in
set_option maxRecDepth 100000 in
theorem zq_X6_countGaps {p : Program} {l : Launch} {e : Env} {s : State} {m : MethodId} {args : Array Value} {below : List Frame} {meth : Method} {c : Code} {D : va_G} {ca : Nat → ClassId} {A : Nat → Prop} {a : Nat → Nat}  {P : Int32 → Prop} {I : zz_I} {L : zz_L} {k0 : Nat} (X : zz_X p s m meth c cX6_countGaps RX6 (some .int) 3) (hA : ∀ q, s.heap.size ≤ q → A q) (hk0 : zz_isT k0)  (h : zp_X6_countGaps k0 P I L) : zz_Go p l e ({ frames := 0, cells := 0, slots := 0, locals := 0 } : Room) s m args below meth c 0 0 (MQ below (zz_Qi D ca zz_dC A a (fun r I9 L9 => P r ∧ I9 = I ∧ L9 = L)) args s 0 0 A) D ca zz_dC A 3 0 a [] [(0, .ref (a k0))] I L := by
  obtain ⟨hx, hb, hml, hown, zw, hr, hlocks⟩ := id X
  intro H locs ls hB hl
  unfold zp_X6_countGaps at h
  refine lv_iconst (v := (0 : Int32)) hx hb dX6_countGaps_0 (by decide) ?_
  refine lv_istore_n (lv' := [(1, .int (0 : Int32)), (0, .ref (a k0))]) hx hb dX6_countGaps_1 rfl hl (by decide) rfl (fun ls hl => ?_)
  refine lv_iconst (v := (0 : Int32)) hx hb dX6_countGaps_2 (by decide) ?_
  refine lv_istore_n (lv' := [(2, .int (0 : Int32)), (1, .int (0 : Int32)), (0, .ref (a k0))]) hx hb dX6_countGaps_3 rfl hl (by decide) rfl (fun ls hl => ?_)
  exact zq_X6_countGaps_4 X hA hk0 h H locs ls hB (lv_sub hl [2, 1, 0] rfl)
theorem zc_X6_countGaps (l : Launch) (D : va_G) (ca : Nat → ClassId) (a : Nat → Nat) (I : zz_I) (L : zz_L) (sz : Nat) {k0 : Nat} {P : Int32 → Prop} (hk0 : zz_isT k0) (h : zp_X6_countGaps k0 P I L) : Met l yX6_countGaps [.code yX6_countGaps cX6_countGaps 3 (some .int)] ({ frames := 0, cells := 0, slots := 0, locals := 0 } : Room) (zz_Pre D ca zz_dC [.ref (a k0)] a I L sz) (zz_Qi D ca zz_dC (zz_A ca zz_dC a I L sz) a (fun r I9 L9 => P r ∧ I9 = I ∧ L9 = L)) 0 0 (zz_A ca zz_dC a I L sz) :=
  zz_start (by decide) (Nat.le_of_ble_eq_true rfl) (fun p e s m below meth c X hsz hA => zq_X6_countGaps X hA hk0 h)
def zp_X7_isSign (x0 : Int32) (P : Int32 → Prop) (I : zz_I) (L : zz_L) : Prop := (x0 < 0 → P (0 : Int32)) ∧ (¬ x0 < 0 → ((7 : Int32) ≤ x0 → P (0 : Int32)) ∧ (¬ (7 : Int32) ≤ x0 → P (1 : Int32)))
set_option maxHeartbeats 4000000 in
set_option maxRecDepth 100000 in
theorem zq_X7_isSign {p : Program} {l : Launch} {e : Env} {s : State} {m : MethodId} {args : Array Value} {below : List Frame} {meth : Method} {c : Code} {D : va_G} {ca : Nat → ClassId} {A : Nat → Prop} {a : Nat → Nat}  {P : Int32 → Prop} {I : zz_I} {L : zz_L} {x0 : Int32} (X : zz_X p s m meth c cX7_isSign RX7 (some .boolean) 1) (hA : ∀ q, s.heap.size ≤ q → A q)   (h : zp_X7_isSign x0 P I L) : zz_Go p l e ({ frames := 0, cells := 0, slots := 0, locals := 0 } : Room) s m args below meth c 0 0 (MQ below (zz_Qi D ca zz_dC A a (fun r I9 L9 => P r ∧ I9 = I ∧ L9 = L)) args s 0 0 A) D ca zz_dC A 1 0 a [] [(0, .int x0)] I L := by
  obtain ⟨hx, hb, hml, hown, zw, hr, hlocks⟩ := id X
  intro H locs ls hB hl
  unfold zp_X7_isSign at h
  refine lv_iload_n hx hb dX7_isSign_0 rfl (lv_at hl 0 rfl) ?_
  refine lv_if_lt (tgt := 14) hx hb dX7_isSign_1 (by decide) (fun c1 => ?_) (fun c1 => ?_)
  · have h := h.1 c1
    refine lv_iconst (v := (0 : Int32)) hx hb dX7_isSign_14 (by decide) ?_
    exact zz_zret hx hb hr hlocks zz_bool0 hB ⟨h, rfl, rfl⟩ dX7_isSign_15
  · have h := h.2 c1
    refine lv_iload_n hx hb dX7_isSign_4 rfl (lv_at hl 0 rfl) ?_
    refine lv_bipush (v := (7 : Int32)) hx hb dX7_isSign_5 (by decide) ?_
    refine lv_icmp_ge (tgt := 14) hx hb dX7_isSign_7 (by decide) (fun c7 => ?_) (fun c7 => ?_)
    · have h := h.1 c7
      refine lv_iconst (v := (0 : Int32)) hx hb dX7_isSign_14 (by decide) ?_
      exact zz_zret hx hb hr hlocks zz_bool0 hB ⟨h, rfl, rfl⟩ dX7_isSign_15
    · have h := h.2 c7
      refine lv_iconst (v := (1 : Int32)) hx hb dX7_isSign_10 (by decide) ?_
      refine lv_goto (tgt := 15) hx hb dX7_isSign_11 (by decide) ?_
      exact zz_zret hx hb hr hlocks zz_bool1 hB ⟨h, rfl, rfl⟩ dX7_isSign_15
theorem zc_X7_isSign (l : Launch) (D : va_G) (ca : Nat → ClassId) (a : Nat → Nat) (I : zz_I) (L : zz_L) (sz : Nat) {x0 : Int32} {P : Int32 → Prop}  (h : zp_X7_isSign x0 P I L) : Met l yX7_isSign [.code yX7_isSign cX7_isSign 1 (some .boolean)] ({ frames := 0, cells := 0, slots := 0, locals := 0 } : Room) (zz_Pre D ca zz_dC [.int x0] a I L sz) (zz_Qi D ca zz_dC (zz_A ca zz_dC a I L sz) a (fun r I9 L9 => P r ∧ I9 = I ∧ L9 = L)) 0 0 (zz_A ca zz_dC a I L sz) :=
  zz_start (by decide) (Nat.le_of_ble_eq_true rfl) (fun p e s m below meth c X hsz hA => zq_X7_isSign X hA  h)
def zp_X6_insertSign (k0 : Nat) (x2 : Int32) (x3 : Int32) (P : Int32 → zz_I → zz_L → Prop) (I : zz_I) (L : zz_L) : Prop := zp_X6_hasUnit k0 x2 (fun r2 => (¬ r2 = 0 → zp_X7_isSign x3 (fun r11 => (¬ r11 = 0 → zp_X2_widthOf 14 x3 (fun r22 => zp_X6_isFree k0 x2 r22 (fun r31 => (¬ r31 = 0 → zp_X6_putSign k0 x2 x3 r22 (fun I45 L45 => zp_X6_countGaps k0 (fun r49 => P r49 I45 L45) I45 L45) I L) ∧ (r31 = 0 → P (-3 : Int32) I L)) I L) I L) ∧ (r11 = 0 → P (-2 : Int32) I L)) I L) ∧ (r2 = 0 → P (-1 : Int32) I L)) I L
set_option maxHeartbeats 4000000 in
set_option maxRecDepth 100000 in
theorem zq_X6_insertSign {p : Program} {l : Launch} {e : Env} {s : State} {m : MethodId} {args : Array Value} {below : List Frame} {meth : Method} {c : Code} {D : va_G} {ca : Nat → ClassId} {A : Nat → Prop} {a : Nat → Nat}  {P : Int32 → zz_I → zz_L → Prop} {I : zz_I} {L : zz_L} {k0 : Nat} {x2 : Int32} {x3 : Int32} (X : zz_X p s m meth c cX6_insertSign RX6 (some .int) 5) (hA : ∀ q, s.heap.size ≤ q → A q) (hk0 : zz_isT k0)  (h : zp_X6_insertSign k0 x2 x3 P I L) : zz_Go p l e ({ frames := 2, cells := 0, slots := 0, locals := 45 } : Room) s m args below meth c 0 0 (MQ below (zz_Qi D ca zz_dC A a P) args s 0 0 A) D ca zz_dC A 5 0 a [] [(0, .ref (a k0)), (1, .ref (a 14)), (2, .int x2), (3, .int x3)] I L := by
  obtain ⟨hx, hb, hml, hown, zw, hr, hlocks⟩ := id X
  intro H locs ls hB hl
  unfold zp_X6_insertSign at h
  refine lv_aload_n hx hb dX6_insertSign_0 rfl (lv_at hl 0 rfl) ?_
  refine lv_iload_n hx hb dX6_insertSign_1 rfl (lv_at hl 2 rfl) ?_
  refine zz_goip hB hA (zz_runV (As := [.int x2]) (rest := []) hx hb hml hown zw hB zM_X6_40 (zc_X6_hasUnit l D ca a I L H.size hk0 h) hk0.1 rfl rfl hl.1 rfl (Nat.le_of_ble_eq_true rfl) rfl rfl ⟨Nat.le_of_ble_eq_true rfl, Nat.le_of_ble_eq_true rfl⟩ dX6_insertSign_2 ⟨Nat.le_of_ble_eq_true rfl, Nat.le_of_ble_eq_true rfl⟩) (fun r2 H locs h hB => ?_)
  refine lv_if_ne (tgt := 10) hx hb dX6_insertSign_5 (by decide) (fun c5 => ?_) (fun c5 => ?_)
  · have h := h.1 c5
    refine lv_iload_n hx hb dX6_insertSign_10 rfl (lv_at hl 3 rfl) ?_
    refine zz_goip hB hA (zz_runS (As := [.int x3]) (rest := []) hx hb hml hown zw hB zM_X6_64 (zc_X7_isSign l D ca a I L H.size h) rfl hl.1 rfl (Nat.le_of_ble_eq_true rfl) rfl rfl ⟨Nat.le_of_ble_eq_true rfl, Nat.le_of_ble_eq_true rfl⟩ dX6_insertSign_11 ⟨Nat.le_of_ble_eq_true rfl, Nat.le_of_ble_eq_true rfl⟩) (fun r11 H locs h hB => ?_)
    refine lv_if_ne (tgt := 20) hx hb dX6_insertSign_14 (by decide) (fun c14 => ?_) (fun c14 => ?_)
    · have h := h.1 c14
      refine lv_aload_n hx hb dX6_insertSign_20 rfl (lv_at hl 1 rfl) ?_
      refine lv_iload_n hx hb dX6_insertSign_21 rfl (lv_at hl 3 rfl) ?_
      refine zz_goip hB hA (zz_runV (As := [.int x3]) (rest := []) hx hb hml hown zw hB zM_X6_56 (zc_X2_widthOf l D ca a I L H.size zz_isX_14 h) zdC_14 rfl rfl hl.1 rfl (Nat.le_of_ble_eq_true rfl) rfl rfl ⟨Nat.le_of_ble_eq_true rfl, Nat.le_of_ble_eq_true rfl⟩ dX6_insertSign_22 ⟨Nat.le_of_ble_eq_true rfl, Nat.le_of_ble_eq_true rfl⟩) (fun r22 H locs h hB => ?_)
      refine lv_istore (lv' := [(4, .int r22), (0, .ref (a k0)), (1, .ref (a 14)), (2, .int x2), (3, .int x3)]) hx hb dX6_insertSign_25 hl (by decide) rfl (fun ls hl => ?_)
      refine lv_aload_n hx hb dX6_insertSign_27 rfl (lv_at hl 1 rfl) ?_
      refine lv_iload_n hx hb dX6_insertSign_28 rfl (lv_at hl 3 rfl) ?_
      refine lv_iload hx hb dX6_insertSign_29 (lv_at hl 0 rfl) ?_
      refine zz_goip hB hA (zz_runV (As := [.int x2, .int r22]) (rest := []) hx hb hml hown zw hB zM_X6_60 (zc_X6_isFree l D ca a I L H.size hk0 h) hk0.1 rfl rfl hl.1 rfl (Nat.le_of_ble_eq_true rfl) rfl rfl ⟨Nat.le_of_ble_eq_true rfl, Nat.le_of_ble_eq_true rfl⟩ dX6_insertSign_31 ⟨Nat.le_of_ble_eq_true rfl, Nat.le_of_ble_eq_true rfl⟩) (fun r31 H locs h hB => ?_)
      refine lv_if_ne (tgt := 40) hx hb dX6_insertSign_34 (by decide) (fun c34 => ?_) (fun c34 => ?_)
      · have h := h.1 c34
        refine lv_aload_n hx hb dX6_insertSign_40 rfl (lv_at hl 1 rfl) ?_
        refine lv_iload_n hx hb dX6_insertSign_41 rfl (lv_at hl 3 rfl) ?_
        refine lv_iload_n hx hb dX6_insertSign_42 rfl (lv_at hl 4 rfl) ?_
        refine lv_iload hx hb dX6_insertSign_43 (lv_at hl 0 rfl) ?_
        refine zz_gov hB hA (zz_runV (As := [.int x2, .int x3, .int r22]) (rest := []) hx hb hml hown zw hB zM_X6_71 (zc_X6_putSign l D ca a I L H.size hk0 h) hk0.1 rfl rfl hl.1 rfl (Nat.le_of_ble_eq_true rfl) rfl rfl ⟨Nat.le_of_ble_eq_true rfl, Nat.le_of_ble_eq_true rfl⟩ dX6_insertSign_45 ⟨Nat.le_of_ble_eq_true rfl, Nat.le_of_ble_eq_true rfl⟩) (fun I45 L45 H locs h hB => ?_)
        refine lv_aload_n hx hb dX6_insertSign_48 rfl (lv_at hl 1 rfl) ?_
        refine zz_goip hB hA (zz_runV (As := []) (rest := []) hx hb hml hown zw hB zM_X6_75 (zc_X6_countGaps l D ca a I45 L45 H.size hk0 h) hk0.1 rfl rfl hl.1 rfl (Nat.le_of_ble_eq_true rfl) rfl rfl ⟨Nat.le_of_ble_eq_true rfl, Nat.le_of_ble_eq_true rfl⟩ dX6_insertSign_49 ⟨Nat.le_of_ble_eq_true rfl, Nat.le_of_ble_eq_true rfl⟩) (fun r49 H locs h hB => ?_)
        exact zz_iret hx hb hr hlocks hB h dX6_insertSign_52
      · have h := h.2 c34
        refine lv_bipush (v := (-3 : Int32)) hx hb dX6_insertSign_37 (by decide) ?_
        exact zz_iret hx hb hr hlocks hB h dX6_insertSign_39
    · have h := h.2 c14
      refine lv_bipush (v := (-2 : Int32)) hx hb dX6_insertSign_17 (by decide) ?_
      exact zz_iret hx hb hr hlocks hB h dX6_insertSign_19
  · have h := h.2 c5
    refine lv_iconst (v := (-1 : Int32)) hx hb dX6_insertSign_8 (by decide) ?_
    exact zz_iret hx hb hr hlocks hB h dX6_insertSign_9
theorem zc_X6_insertSign (l : Launch) (D : va_G) (ca : Nat → ClassId) (a : Nat → Nat) (I : zz_I) (L : zz_L) (sz : Nat) {k0 : Nat} {x2 : Int32} {x3 : Int32} {P : Int32 → zz_I → zz_L → Prop} (hk0 : zz_isT k0) (h : zp_X6_insertSign k0 x2 x3 P I L) : Met l yX6_insertSign [.code yX6_insertSign cX6_insertSign 5 (some .int)] ({ frames := 2, cells := 0, slots := 0, locals := 45 } : Room) (zz_Pre D ca zz_dC [.ref (a k0), .ref (a 14), .int x2, .int x3] a I L sz) (zz_Qi D ca zz_dC (zz_A ca zz_dC a I L sz) a P) 0 0 (zz_A ca zz_dC a I L sz) :=
  zz_start (by decide) (Nat.le_of_ble_eq_true rfl) (fun p e s m below meth c X hsz hA => zq_X6_insertSign X hA hk0 h)
def zp_X6_removeSign (k0 : Nat) (x2 : Int32) (P : Int32 → zz_I → zz_L → Prop) (I : zz_I) (L : zz_L) : Prop := zp_X6_hasUnit k0 x2 (fun r2 => (¬ r2 = 0 → vp_in x2 24 ∧ (∀ v16 : Int32, v16 = I (k0 + 1) x2.toNatClampNeg → (zp_X7_isSign v16 (fun r18 => (¬ r18 = 0 → zp_X2_widthOf 14 v16 (fun r31 => zp_X6_putGap k0 x2 r31 (fun I34 L34 => P v16 I34 L34) I L) I L) ∧ (r18 = 0 → P (-3 : Int32) I L)) I L))) ∧ (r2 = 0 → P (-1 : Int32) I L)) I L
set_option maxHeartbeats 4000000 in
set_option maxRecDepth 100000 in
theorem zq_X6_removeSign {p : Program} {l : Launch} {e : Env} {s : State} {m : MethodId} {args : Array Value} {below : List Frame} {meth : Method} {c : Code} {D : va_G} {ca : Nat → ClassId} {A : Nat → Prop} {a : Nat → Nat}  {P : Int32 → zz_I → zz_L → Prop} {I : zz_I} {L : zz_L} {k0 : Nat} {x2 : Int32} (X : zz_X p s m meth c cX6_removeSign RX6 (some .int) 4) (hA : ∀ q, s.heap.size ≤ q → A q) (hk0 : zz_isT k0)  (h : zp_X6_removeSign k0 x2 P I L) : zz_Go p l e ({ frames := 2, cells := 0, slots := 0, locals := 44 } : Room) s m args below meth c 0 0 (MQ below (zz_Qi D ca zz_dC A a P) args s 0 0 A) D ca zz_dC A 4 0 a [] [(0, .ref (a k0)), (1, .ref (a 14)), (2, .int x2)] I L := by
  obtain ⟨hx, hb, hml, hown, zw, hr, hlocks⟩ := id X
  intro H locs ls hB hl
  unfold zp_X6_removeSign at h
  refine lv_aload_n hx hb dX6_removeSign_0 rfl (lv_at hl 0 rfl) ?_
  refine lv_iload_n hx hb dX6_removeSign_1 rfl (lv_at hl 2 rfl) ?_
  refine zz_goip hB hA (zz_runV (As := [.int x2]) (rest := []) hx hb hml hown zw hB zM_X6_40 (zc_X6_hasUnit l D ca a I L H.size hk0 h) hk0.1 rfl rfl hl.1 rfl (Nat.le_of_ble_eq_true rfl) rfl rfl ⟨Nat.le_of_ble_eq_true rfl, Nat.le_of_ble_eq_true rfl⟩ dX6_removeSign_2 ⟨Nat.le_of_ble_eq_true rfl, Nat.le_of_ble_eq_true rfl⟩) (fun r2 H locs h hB => ?_)
  refine lv_if_ne (tgt := 10) hx hb dX6_removeSign_5 (by decide) (fun c5 => ?_) (fun c5 => ?_)
  · have h := h.1 c5
    refine lv_aload_n hx hb dX6_removeSign_10 rfl (lv_at hl 0 rfl) ?_
    refine zz_getr (k' := k0 + 1) hx hb hown zw hB zF_X6_9 hk0.1 rfl rfl dX6_removeSign_11 ?_
    refine lv_iload_n hx hb dX6_removeSign_14 rfl (lv_at hl 2 rfl) ?_
    obtain ⟨hi15, h⟩ := h
    refine zz_iald hx hb hB hk0.2.1 hi15 dX6_removeSign_15 ?_
    refine lv_topi (fun v16 ev16 => ?_)
    have h := h v16 ev16
    refine lv_istore_n (lv' := [(3, .int v16), (0, .ref (a k0)), (1, .ref (a 14)), (2, .int x2)]) hx hb dX6_removeSign_16 rfl hl (by decide) rfl (fun ls hl => ?_)
    refine lv_iload_n hx hb dX6_removeSign_17 rfl (lv_at hl 0 rfl) ?_
    refine zz_goip hB hA (zz_runS (As := [.int v16]) (rest := []) hx hb hml hown zw hB zM_X6_64 (zc_X7_isSign l D ca a I L H.size h) rfl hl.1 rfl (Nat.le_of_ble_eq_true rfl) rfl rfl ⟨Nat.le_of_ble_eq_true rfl, Nat.le_of_ble_eq_true rfl⟩ dX6_removeSign_18 ⟨Nat.le_of_ble_eq_true rfl, Nat.le_of_ble_eq_true rfl⟩) (fun r18 H locs h hB => ?_)
    refine lv_if_ne (tgt := 27) hx hb dX6_removeSign_21 (by decide) (fun c21 => ?_) (fun c21 => ?_)
    · have h := h.1 c21
      refine lv_aload_n hx hb dX6_removeSign_27 rfl (lv_at hl 1 rfl) ?_
      refine lv_iload_n hx hb dX6_removeSign_28 rfl (lv_at hl 3 rfl) ?_
      refine lv_aload_n hx hb dX6_removeSign_29 rfl (lv_at hl 2 rfl) ?_
      refine lv_iload_n hx hb dX6_removeSign_30 rfl (lv_at hl 0 rfl) ?_
      refine zz_goip hB hA (zz_runV (As := [.int v16]) (rest := [.int x2, .ref (a k0)]) hx hb hml hown zw hB zM_X6_56 (zc_X2_widthOf l D ca a I L H.size zz_isX_14 h) zdC_14 rfl rfl hl.1 rfl (Nat.le_of_ble_eq_true rfl) rfl rfl ⟨Nat.le_of_ble_eq_true rfl, Nat.le_of_ble_eq_true rfl⟩ dX6_removeSign_31 ⟨Nat.le_of_ble_eq_true rfl, Nat.le_of_ble_eq_true rfl⟩) (fun r31 H locs h hB => ?_)
      refine zz_gov hB hA (zz_runV (As := [.int x2, .int r31]) (rest := []) hx hb hml hown zw hB zM_X6_67 (zc_X6_putGap l D ca a I L H.size hk0 h) hk0.1 rfl rfl hl.1 rfl (Nat.le_of_ble_eq_true rfl) rfl rfl ⟨Nat.le_of_ble_eq_true rfl, Nat.le_of_ble_eq_true rfl⟩ dX6_removeSign_34 ⟨Nat.le_of_ble_eq_true rfl, Nat.le_of_ble_eq_true rfl⟩) (fun I34 L34 H locs h hB => ?_)
      refine lv_iload_n hx hb dX6_removeSign_37 rfl (lv_at hl 0 rfl) ?_
      exact zz_iret hx hb hr hlocks hB h dX6_removeSign_38
    · have h := h.2 c21
      refine lv_bipush (v := (-3 : Int32)) hx hb dX6_removeSign_24 (by decide) ?_
      exact zz_iret hx hb hr hlocks hB h dX6_removeSign_26
  · have h := h.2 c5
    refine lv_iconst (v := (-1 : Int32)) hx hb dX6_removeSign_8 (by decide) ?_
    exact zz_iret hx hb hr hlocks hB h dX6_removeSign_9
theorem zc_X6_removeSign (l : Launch) (D : va_G) (ca : Nat → ClassId) (a : Nat → Nat) (I : zz_I) (L : zz_L) (sz : Nat) {k0 : Nat} {x2 : Int32} {P : Int32 → zz_I → zz_L → Prop} (hk0 : zz_isT k0) (h : zp_X6_removeSign k0 x2 P I L) : Met l yX6_removeSign [.code yX6_removeSign cX6_removeSign 4 (some .int)] ({ frames := 2, cells := 0, slots := 0, locals := 44 } : Room) (zz_Pre D ca zz_dC [.ref (a k0), .ref (a 14), .int x2] a I L sz) (zz_Qi D ca zz_dC (zz_A ca zz_dC a I L sz) a P) 0 0 (zz_A ca zz_dC a I L sz) :=
  zz_start (by decide) (Nat.le_of_ble_eq_true rfl) (fun p e s m below meth c X hsz hA => zq_X6_removeSign X hA hk0 h)
def zp_X7_certainSign_23b (K23 : Int32 → Prop) (P : Int32 → zz_I → zz_L → Prop) (k1 : Nat) (x2 : Int32) (x3 : Int64) (x5 : Int32) (I : zz_I) (L : zz_L) : Prop := ((7 : Int32) ≤ x5 → P (-9 : Int32) I L) ∧ (¬ (7 : Int32) ≤ x5 → (x3 ≤ (0 : Int64) → ∀ v58 : Int32, v58 = x5 + (1 : Int32) → (K23 v58)) ∧ (¬ x3 ≤ (0 : Int64) → zp_X0_countSign x2 x5 (fun r47 => (¬ r47 = x3 → ∀ v58 : Int32, v58 = x5 + (1 : Int32) → (K23 v58)) ∧ (r47 = x3 → P x5 I L)) I L))
set_option maxHeartbeats 4000000 in
set_option maxRecDepth 100000 in
theorem zq_X7_certainSign_23b {p : Program} {l : Launch} {e : Env} {s : State} {m : MethodId} {args : Array Value} {below : List Frame} {meth : Method} {c : Code} {D : va_G} {ca : Nat → ClassId} {A : Nat → Prop} {a : Nat → Nat} {K23 : Int32 → Prop} {P : Int32 → zz_I → zz_L → Prop} {I : zz_I} {L : zz_L} {k1 : Nat} {x2 : Int32} {x3 : Int64} {x5 : Int32} (X : zz_X p s m meth c cX7_certainSign RX7 (some .int) 6) (hA : ∀ q, s.heap.size ≤ q → A q) (hk1 : zz_isT k1) (hK23 : ∀ (y5 : Int32), K23 y5 → zz_Go p l e ({ frames := 4, cells := 0, slots := 0, locals := 99 } : Room) s m args below meth c 0 0 (MQ below (zz_Qi D ca zz_dC A a P) args s 0 0 A) D ca zz_dC A 6 23 a [] [(0, .ref (a 0)), (2, .int x2), (3, .long x3), (5, .int y5)] I L) (h : zp_X7_certainSign_23b K23 P k1 x2 x3 x5 I L) : zz_Go p l e ({ frames := 4, cells := 0, slots := 0, locals := 99 } : Room) s m args below meth c 0 0 (MQ below (zz_Qi D ca zz_dC A a P) args s 0 0 A) D ca zz_dC A 6 23 a [] [(0, .ref (a 0)), (2, .int x2), (3, .long x3), (5, .int x5)] I L := by
  obtain ⟨hx, hb, hml, hown, zw, hr, hlocks⟩ := id X
  intro H locs ls hB hl
  unfold zp_X7_certainSign_23b at h
  refine lv_iload hx hb dX7_certainSign_23 (lv_at hl 3 rfl) ?_
  refine lv_bipush (v := (7 : Int32)) hx hb dX7_certainSign_25 (by decide) ?_
  refine lv_icmp_ge (tgt := 64) hx hb dX7_certainSign_27 (by decide) (fun c27 => ?_) (fun c27 => ?_)
  · have h := h.1 c27
    refine lv_bipush (v := (-9 : Int32)) hx hb dX7_certainSign_64 (by decide) ?_
    exact zz_iret hx hb hr hlocks hB h dX7_certainSign_66
  · have h := h.2 c27
    refine lv_lload_n hx hb dX7_certainSign_30 rfl (lv_at hl 2 rfl) ?_
    refine lv_lconst (v := (0 : Int64)) hx hb dX7_certainSign_31 (by decide) ?_
    refine zz_l_le (tgt := 58) hx hb dX7_certainSign_32 dX7_certainSign_33 (by decide) (fun c32 => ?_) (fun c32 => ?_)
    · have h := h.1 c32
      obtain ⟨v58, ev58⟩ : ∃ z : Int32, z = x5 + (1 : Int32) := ⟨_, rfl⟩
      have h := h v58 ev58
      refine lv_iinc (v := v58) (lv' := [(5, .int v58), (0, .ref (a 0)), (2, .int x2), (3, .long x3)]) hx hb dX7_certainSign_58 hl (k := 3) rfl (by rw [ev58]; rfl) (by decide) rfl (fun ls hl => ?_)
      refine lv_goto (tgt := 23) hx hb dX7_certainSign_61 (by decide) ?_
      exact hK23 _ h H locs ls hB (lv_sub hl [1, 2, 3, 0] rfl)
    · have h := h.2 c32
      refine lv_aload_n hx hb dX7_certainSign_36 rfl (lv_at hl 0 rfl) ?_
      refine zz_getr (k' := 37) hx hb hown zw hB zF_X7_50 zdC_0 rfl rfl dX7_certainSign_37 ?_
      refine lv_aload_n hx hb dX7_certainSign_40 rfl (lv_at hl 0 rfl) ?_
      refine zz_getr (k' := 14) hx hb hown zw hB zF_X7_19 zdC_0 rfl rfl dX7_certainSign_41 ?_
      refine lv_iload_n hx hb dX7_certainSign_44 rfl (lv_at hl 1 rfl) ?_
      refine lv_iload hx hb dX7_certainSign_45 (lv_at hl 3 rfl) ?_
      refine zz_golp hB hA (zz_runV (As := [.ref (a 14), .int x2, .int x5]) (rest := []) hx hb hml hown zw hB zM_X7_203 (zc_X0_countSign l D ca a I L H.size h) zdC_37 rfl rfl hl.1 rfl (Nat.le_of_ble_eq_true rfl) rfl rfl ⟨Nat.le_of_ble_eq_true rfl, Nat.le_of_ble_eq_true rfl⟩ dX7_certainSign_47 ⟨Nat.le_of_ble_eq_true rfl, Nat.le_of_ble_eq_true rfl⟩) (fun r47 H locs h hB => ?_)
      refine lv_lload_n hx hb dX7_certainSign_50 rfl (lv_at hl 2 rfl) ?_
      refine zz_l_ne (tgt := 58) hx hb dX7_certainSign_51 dX7_certainSign_52 (by decide) (fun c51 => ?_) (fun c51 => ?_)
      · have h := h.1 c51
        obtain ⟨v58, ev58⟩ : ∃ z : Int32, z = x5 + (1 : Int32) := ⟨_, rfl⟩
        have h := h v58 ev58
        refine lv_iinc (v := v58) (lv' := [(5, .int v58), (0, .ref (a 0)), (2, .int x2), (3, .long x3)]) hx hb dX7_certainSign_58 hl (k := 3) rfl (by rw [ev58]; rfl) (by decide) rfl (fun ls hl => ?_)
        refine lv_goto (tgt := 23) hx hb dX7_certainSign_61 (by decide) ?_
        exact hK23 _ h H locs ls hB (lv_sub hl [1, 2, 3, 0] rfl)
      · have h := h.2 c51
        refine lv_iload hx hb dX7_certainSign_55 (lv_at hl 3 rfl) ?_
        exact zz_iret hx hb hr hlocks hB h dX7_certainSign_57
def zp_X7_certainSign_23  (P : Int32 → zz_I → zz_L → Prop) (k1 : Nat) (x2 : Int32) (x3 : Int64) (x5 : Int32) (I : zz_I) (L : zz_L) : Prop := ∃ (Inv : Int32 → Prop) (μ : Int32 → Nat), Inv x5 ∧ ∀ (y5 : Int32), Inv y5 → zp_X7_certainSign_23b  (fun z5 => Inv z5 ∧ μ z5 < μ y5) P k1 x2 x3 y5 I L
set_option maxHeartbeats 4000000 in
set_option maxRecDepth 100000 in
theorem zq_X7_certainSign_23 {p : Program} {l : Launch} {e : Env} {s : State} {m : MethodId} {args : Array Value} {below : List Frame} {meth : Method} {c : Code} {D : va_G} {ca : Nat → ClassId} {A : Nat → Prop} {a : Nat → Nat}  {P : Int32 → zz_I → zz_L → Prop} {I : zz_I} {L : zz_L} {k1 : Nat} {x2 : Int32} {x3 : Int64} {x5 : Int32} (X : zz_X p s m meth c cX7_certainSign RX7 (some .int) 6) (hA : ∀ q, s.heap.size ≤ q → A q) (hk1 : zz_isT k1)  (h : zp_X7_certainSign_23  P k1 x2 x3 x5 I L) : zz_Go p l e ({ frames := 4, cells := 0, slots := 0, locals := 99 } : Room) s m args below meth c 0 0 (MQ below (zz_Qi D ca zz_dC A a P) args s 0 0 A) D ca zz_dC A 6 23 a [] [(0, .ref (a 0)), (2, .int x2), (3, .long x3), (5, .int x5)] I L := by
  unfold zp_X7_certainSign_23 at h
  obtain ⟨Inv, μ, hv0, hs⟩ := h
  have key : ∀ (n9 : Nat) (y5 : Int32), μ y5 < n9 → Inv y5 → zz_Go p l e ({ frames := 4, cells := 0, slots := 0, locals := 99 } : Room) s m args below meth c 0 0 (MQ below (zz_Qi D ca zz_dC A a P) args s 0 0 A) D ca zz_dC A 6 23 a [] [(0, .ref (a 0)), (2, .int x2), (3, .long x3), (5, .int y5)] I L := by
    intro n9
    induction n9 with
    | zero => intro y5 hn; exact absurd hn (Nat.not_lt_zero _)
    | succ n9 ih =>
      intro y5 hn hi
      exact zq_X7_certainSign_23b (K23 := (fun z5 => Inv z5 ∧ μ z5 < μ y5)) X hA hk1  (fun z5 hz => ih z5 (Nat.lt_of_lt_of_le hz.2 (Nat.le_of_lt_succ hn)) hz.1) (hs y5 hi)
  exact key _ x5 (Nat.lt_succ_self _) hv0
def zp_X7_certainSign (k1 : Nat) (x2 : Int32) (P : Int32 → zz_I → zz_L → Prop) (I : zz_I) (L : zz_L) : Prop := zp_X0_countAll k1 (fun r9 I9 L9 => zp_X0_countHeads  (fun I17 L17 => zp_X7_certainSign_23 P k1 x2 r9 (0 : Int32) I17 L17) I9 L9) I L
set_option maxHeartbeats 4000000 in
set_option maxRecDepth 100000 in
theorem zq_X7_certainSign {p : Program} {l : Launch} {e : Env} {s : State} {m : MethodId} {args : Array Value} {below : List Frame} {meth : Method} {c : Code} {D : va_G} {ca : Nat → ClassId} {A : Nat → Prop} {a : Nat → Nat}  {P : Int32 → zz_I → zz_L → Prop} {I : zz_I} {L : zz_L} {k1 : Nat} {x2 : Int32} (X : zz_X p s m meth c cX7_certainSign RX7 (some .int) 6) (hA : ∀ q, s.heap.size ≤ q → A q) (hk1 : zz_isT k1)  (h : zp_X7_certainSign k1 x2 P I L) : zz_Go p l e ({ frames := 4, cells := 0, slots := 0, locals := 99 } : Room) s m args below meth c 0 0 (MQ below (zz_Qi D ca zz_dC A a P) args s 0 0 A) D ca zz_dC A 6 0 a [] [(0, .ref (a 0)), (1, .ref (a k1)), (2, .int x2)] I L := by
  obtain ⟨hx, hb, hml, hown, zw, hr, hlocks⟩ := id X
  intro H locs ls hB hl
  unfold zp_X7_certainSign at h
  refine lv_aload_n hx hb dX7_certainSign_0 rfl (lv_at hl 0 rfl) ?_
  refine zz_getr (k' := 37) hx hb hown zw hB zF_X7_50 zdC_0 rfl rfl dX7_certainSign_1 ?_
  refine lv_aload_n hx hb dX7_certainSign_4 rfl (lv_at hl 0 rfl) ?_
  refine zz_getr (k' := 14) hx hb hown zw hB zF_X7_19 zdC_0 rfl rfl dX7_certainSign_5 ?_
  refine lv_aload_n hx hb dX7_certainSign_8 rfl (lv_at hl 1 rfl) ?_
  refine zz_gol hB hA (zz_runV (As := [.ref (a 14), .ref (a k1)]) (rest := []) hx hb hml hown zw hB zM_X7_174 (zc_X0_countAll l D ca a I L H.size hk1 h) zdC_37 rfl rfl hl.1 rfl (Nat.le_of_ble_eq_true rfl) rfl rfl ⟨Nat.le_of_ble_eq_true rfl, Nat.le_of_ble_eq_true rfl⟩ dX7_certainSign_9 ⟨Nat.le_of_ble_eq_true rfl, Nat.le_of_ble_eq_true rfl⟩) (fun r9 I9 L9 H locs h hB => ?_)
  refine lv_lstore_n (lv' := [(3, .long r9), (0, .ref (a 0)), (1, .ref (a k1)), (2, .int x2)]) hx hb dX7_certainSign_12 rfl hl (by decide) rfl (fun ls hl => ?_)
  refine lv_aload_n hx hb dX7_certainSign_13 rfl (lv_at hl 1 rfl) ?_
  refine zz_getr (k' := 37) hx hb hown zw hB zF_X7_50 zdC_0 rfl rfl dX7_certainSign_14 ?_
  refine zz_gov hB hA (zz_runV (As := []) (rest := []) hx hb hml hown zw hB zM_X7_200 (zc_X0_countHeads l D ca a I9 L9 H.size h) zdC_37 rfl rfl hl.1 rfl (Nat.le_of_ble_eq_true rfl) rfl rfl ⟨Nat.le_of_ble_eq_true rfl, Nat.le_of_ble_eq_true rfl⟩ dX7_certainSign_17 ⟨Nat.le_of_ble_eq_true rfl, Nat.le_of_ble_eq_true rfl⟩) (fun I17 L17 H locs h hB => ?_)
  refine lv_iconst (v := (0 : Int32)) hx hb dX7_certainSign_20 (by decide) ?_
  refine lv_istore (lv' := [(5, .int (0 : Int32)), (3, .long r9), (0, .ref (a 0)), (1, .ref (a k1)), (2, .int x2)]) hx hb dX7_certainSign_21 hl (by decide) rfl (fun ls hl => ?_)
  exact zq_X7_certainSign_23 X hA hk1 h H locs ls hB (lv_sub hl [2, 4, 1, 0] rfl)
theorem zc_X7_certainSign (l : Launch) (D : va_G) (ca : Nat → ClassId) (a : Nat → Nat) (I : zz_I) (L : zz_L) (sz : Nat) {k1 : Nat} {x2 : Int32} {P : Int32 → zz_I → zz_L → Prop} (hk1 : zz_isT k1) (h : zp_X7_certainSign k1 x2 P I L) : Met l yX7_certainSign [.code yX7_certainSign cX7_certainSign 6 (some .int)] ({ frames := 4, cells := 0, slots := 0, locals := 99 } : Room) (zz_Pre D ca zz_dC [.ref (a 0), .ref (a k1), .int x2] a I L sz) (zz_Qi D ca zz_dC (zz_A ca zz_dC a I L sz) a P) 0 0 (zz_A ca zz_dC a I L sz) :=
  zz_start (by decide) (Nat.le_of_ble_eq_true rfl) (fun p e s m below meth c X hsz hA => zq_X7_certainSign X hA hk1 h)
def zp_X7_accepts (x1 : Int32) (P : Int32 → zz_I → zz_L → Prop) (I : zz_I) (L : zz_L) : Prop := ∀ v5 : Int32, v5 = x1 / (10000 : Int32) → (∀ v14 : Int32, v14 = (x1 / (1000 : Int32)) - (x1 / (1000 : Int32)) / (10 : Int32) * (10 : Int32) → (∀ v22 : Int32, v22 = (x1 / (100 : Int32)) - (x1 / (100 : Int32)) / (10 : Int32) * (10 : Int32) → (∀ v31 : Int32, v31 = (x1 / (10 : Int32)) - (x1 / (10 : Int32)) / (10 : Int32) * (10 : Int32) → (∀ v37 : Int32, v37 = x1 - x1 / (10 : Int32) * (10 : Int32) → (∀ v46 : Int32, v46 = (v14 * (10 : Int32)) + v22 → ((v37 = 0 → (v5 = (1 : Int32) → (¬ v31 = 0 → P (0 : Int32) I L) ∧ (v31 = 0 → zp_X6_removeSign 25 v46 (fun r115 I115 L115 => (r115 < 0 → P (0 : Int32) I115 L115) ∧ (¬ r115 < 0 → P (1 : Int32) I115 L115)) I L)) ∧ (v5 = (2 : Int32) → zp_X6_insertSign 25 v46 v31 (fun r139 I139 L139 => (r139 < 0 → P (0 : Int32) I139 L139) ∧ (¬ r139 < 0 → P (1 : Int32) I139 L139)) I L) ∧ (v5 = (3 : Int32) → (¬ v22 = 0 → P (0 : Int32) I L) ∧ (v22 = 0 → (¬ v31 = 0 → P (0 : Int32) I L) ∧ (v31 = 0 → zp_X6_flipWord 25 v14 (fun r170 I170 L170 => (r170 < 0 → P (0 : Int32) I170 L170) ∧ (¬ r170 < 0 → P (1 : Int32) I170 L170)) I L))) ∧ (v5 = (4 : Int32) → zp_X6_changeRule 25 v14 v22 v31 (fun r191 I191 L191 => (r191 < 0 → P (0 : Int32) I191 L191) ∧ (¬ r191 < 0 → P (1 : Int32) I191 L191)) I L) ∧ (v5 = (5 : Int32) → zp_X6_holdsWord 25 v14 ((v22 * (10 : Int32)) + v31) (fun r220 => zz_bool r220 ∧ (P r220 I L)) I L) ∧ (v5 = (6 : Int32) → (¬ v31 = 0 → P (0 : Int32) I L) ∧ (v31 = 0 → zp_X0_countAll 25 (fun r241 I241 L241 => ((v46.toInt64) < r241 → P (0 : Int32) I241 L241) ∧ (¬ (v46.toInt64) < r241 → P (1 : Int32) I241 L241)) I L)) ∧ (v5 = (7 : Int32) → zp_X6_hasUnit 25 v46 (fun r263 => (r263 = 0 → P (0 : Int32) I L) ∧ (¬ r263 = 0 → zp_X7_isSign v31 (fun r271 => (r271 = 0 → P (0 : Int32) I L) ∧ (¬ r271 = 0 → zp_X7_certainSign 25 v46 (fun r284 I284 L284 => (¬ r284 = v31 → P (0 : Int32) I284 L284) ∧ (r284 = v31 → P (1 : Int32) I284 L284)) I L)) I L)) I L) ∧ (¬ v5 = (1 : Int32) → ¬ v5 = (2 : Int32) → ¬ v5 = (3 : Int32) → ¬ v5 = (4 : Int32) → ¬ v5 = (5 : Int32) → ¬ v5 = (6 : Int32) → ¬ v5 = (7 : Int32) → P (0 : Int32) I L)) ∧ (¬ v37 = 0 → P (0 : Int32) I L)))))))
set_option maxHeartbeats 4000000 in
set_option maxRecDepth 100000 in
theorem zq_X7_accepts {p : Program} {l : Launch} {e : Env} {s : State} {m : MethodId} {args : Array Value} {below : List Frame} {meth : Method} {c : Code} {D : va_G} {ca : Nat → ClassId} {A : Nat → Prop} {a : Nat → Nat}  {P : Int32 → zz_I → zz_L → Prop} {I : zz_I} {L : zz_L} {x1 : Int32} (X : zz_X p s m meth c cX7_accepts RX7 (some .boolean) 8) (hA : ∀ q, s.heap.size ≤ q → A q)   (h : zp_X7_accepts x1 P I L) : zz_Go p l e ({ frames := 5, cells := 0, slots := 0, locals := 124 } : Room) s m args below meth c 0 0 (MQ below (zz_Qi D ca zz_dC A a P) args s 0 0 A) D ca zz_dC A 8 0 a [] [(0, .ref (a 0)), (1, .int x1)] I L := by
  obtain ⟨hx, hb, hml, hown, zw, hr, hlocks⟩ := id X
  intro H locs ls hB hl
  unfold zp_X7_accepts at h
  refine lv_iload_n hx hb dX7_accepts_0 rfl (lv_at hl 1 rfl) ?_
  refine lv_sipush (v := (10000 : Int32)) hx hb dX7_accepts_1 (by decide) ?_
  refine lv_idiv hx hb dX7_accepts_4 (by decide) ?_
  refine lv_topi (fun v5 ev5 => ?_)
  have h := h v5 ev5
  refine lv_istore_n (lv' := [(2, .int v5), (0, .ref (a 0)), (1, .int x1)]) hx hb dX7_accepts_5 rfl hl (by decide) rfl (fun ls hl => ?_)
  refine lv_iload_n hx hb dX7_accepts_6 rfl (lv_at hl 2 rfl) ?_
  refine lv_sipush (v := (1000 : Int32)) hx hb dX7_accepts_7 (by decide) ?_
  refine lv_idiv hx hb dX7_accepts_10 (by decide) ?_
  refine lv_bipush (v := (10 : Int32)) hx hb dX7_accepts_11 (by decide) ?_
  refine lv_irem hx hb dX7_accepts_13 (by decide) ?_
  refine lv_topi (fun v14 ev14 => ?_)
  have h := h v14 ev14
  refine lv_istore_n (lv' := [(3, .int v14), (2, .int v5), (0, .ref (a 0)), (1, .int x1)]) hx hb dX7_accepts_14 rfl hl (by decide) rfl (fun ls hl => ?_)
  refine lv_iload_n hx hb dX7_accepts_15 rfl (lv_at hl 3 rfl) ?_
  refine lv_bipush (v := (100 : Int32)) hx hb dX7_accepts_16 (by decide) ?_
  refine lv_idiv hx hb dX7_accepts_18 (by decide) ?_
  refine lv_bipush (v := (10 : Int32)) hx hb dX7_accepts_19 (by decide) ?_
  refine lv_irem hx hb dX7_accepts_21 (by decide) ?_
  refine lv_topi (fun v22 ev22 => ?_)
  have h := h v22 ev22
  refine lv_istore (lv' := [(4, .int v22), (3, .int v14), (2, .int v5), (0, .ref (a 0)), (1, .int x1)]) hx hb dX7_accepts_22 hl (by decide) rfl (fun ls hl => ?_)
  refine lv_iload_n hx hb dX7_accepts_24 rfl (lv_at hl 4 rfl) ?_
  refine lv_bipush (v := (10 : Int32)) hx hb dX7_accepts_25 (by decide) ?_
  refine lv_idiv hx hb dX7_accepts_27 (by decide) ?_
  refine lv_bipush (v := (10 : Int32)) hx hb dX7_accepts_28 (by decide) ?_
  refine lv_irem hx hb dX7_accepts_30 (by decide) ?_
  refine lv_topi (fun v31 ev31 => ?_)
  have h := h v31 ev31
  refine lv_istore (lv' := [(5, .int v31), (4, .int v22), (3, .int v14), (2, .int v5), (0, .ref (a 0)), (1, .int x1)]) hx hb dX7_accepts_31 hl (by decide) rfl (fun ls hl => ?_)
  refine lv_iload_n hx hb dX7_accepts_33 rfl (lv_at hl 5 rfl) ?_
  refine lv_bipush (v := (10 : Int32)) hx hb dX7_accepts_34 (by decide) ?_
  refine lv_irem hx hb dX7_accepts_36 (by decide) ?_
  refine lv_topi (fun v37 ev37 => ?_)
  have h := h v37 ev37
  refine lv_istore (lv' := [(6, .int v37), (5, .int v31), (4, .int v22), (3, .int v14), (2, .int v5), (0, .ref (a 0)), (1, .int x1)]) hx hb dX7_accepts_37 hl (by decide) rfl (fun ls hl => ?_)
  refine lv_iload_n hx hb dX7_accepts_39 rfl (lv_at hl 3 rfl) ?_
  refine lv_bipush (v := (10 : Int32)) hx hb dX7_accepts_40 (by decide) ?_
  refine lv_imul hx hb dX7_accepts_42 ?_
  refine lv_iload hx hb dX7_accepts_43 (lv_at hl 2 rfl) ?_
  refine lv_iadd hx hb dX7_accepts_45 ?_
  refine lv_topi (fun v46 ev46 => ?_)
  have h := h v46 ev46
  refine lv_istore (lv' := [(7, .int v46), (6, .int v37), (5, .int v31), (4, .int v22), (3, .int v14), (2, .int v5), (0, .ref (a 0)), (1, .int x1)]) hx hb dX7_accepts_46 hl (by decide) rfl (fun ls hl => ?_)
  refine lv_iload hx hb dX7_accepts_48 (lv_at hl 1 rfl) ?_
  refine lv_if_eq (tgt := 55) hx hb dX7_accepts_50 (by decide) (fun c50 => ?_) (fun c50 => ?_)
  · have h := h.1 c50
    refine lv_iload_n hx hb dX7_accepts_55 rfl (lv_at hl 5 rfl) ?_
    by_cases q56_1 : v5 = (1 : Int32)
    · have h := h.1 q56_1
      refine lv_tableIn (tgt := 100) hx hb dX7_accepts_56 (by rw [q56_1] <;> decide) (by rw [q56_1] <;> decide) (by rw [q56_1] <;> rfl) (by decide) ?_
      refine lv_iload hx hb dX7_accepts_100 (lv_at hl 2 rfl) ?_
      refine lv_if_ne (tgt := 125) hx hb dX7_accepts_102 (by decide) (fun c102 => ?_) (fun c102 => ?_)
      · have h := h.1 c102
        refine lv_iconst (v := (0 : Int32)) hx hb dX7_accepts_125 (by decide) ?_
        exact zz_zret hx hb hr hlocks zz_bool0 hB h dX7_accepts_126
      · have h := h.2 c102
        refine lv_aload_n hx hb dX7_accepts_105 rfl (lv_at hl 6 rfl) ?_
        refine zz_getr (k' := 25) hx hb hown zw hB zF_X7_30 zdC_0 rfl rfl dX7_accepts_106 ?_
        refine lv_aload_n hx hb dX7_accepts_109 rfl (lv_at hl 6 rfl) ?_
        refine zz_getr (k' := 14) hx hb hown zw hB zF_X7_19 zdC_0 rfl rfl dX7_accepts_110 ?_
        refine lv_iload hx hb dX7_accepts_113 (lv_at hl 0 rfl) ?_
        refine zz_goi hB hA (zz_runV (As := [.ref (a 14), .int v46]) (rest := []) hx hb hml hown zw hB zM_X7_144 (zc_X6_removeSign l D ca a I L H.size zz_isT_25 h) zdC_25 rfl rfl hl.1 rfl (Nat.le_of_ble_eq_true rfl) rfl rfl ⟨Nat.le_of_ble_eq_true rfl, Nat.le_of_ble_eq_true rfl⟩ dX7_accepts_115 ⟨Nat.le_of_ble_eq_true rfl, Nat.le_of_ble_eq_true rfl⟩) (fun r115 I115 L115 H locs h hB => ?_)
        refine lv_if_lt (tgt := 125) hx hb dX7_accepts_118 (by decide) (fun c118 => ?_) (fun c118 => ?_)
        · have h := h.1 c118
          refine lv_iconst (v := (0 : Int32)) hx hb dX7_accepts_125 (by decide) ?_
          exact zz_zret hx hb hr hlocks zz_bool0 hB h dX7_accepts_126
        · have h := h.2 c118
          refine lv_iconst (v := (1 : Int32)) hx hb dX7_accepts_121 (by decide) ?_
          refine lv_goto (tgt := 126) hx hb dX7_accepts_122 (by decide) ?_
          exact zz_zret hx hb hr hlocks zz_bool1 hB h dX7_accepts_126
    by_cases q56_2 : v5 = (2 : Int32)
    · have h := h.2.1 q56_2
      refine lv_tableIn (tgt := 127) hx hb dX7_accepts_56 (by rw [q56_2] <;> decide) (by rw [q56_2] <;> decide) (by rw [q56_2] <;> rfl) (by decide) ?_
      refine lv_aload_n hx hb dX7_accepts_127 rfl (lv_at hl 6 rfl) ?_
      refine zz_getr (k' := 25) hx hb hown zw hB zF_X7_30 zdC_0 rfl rfl dX7_accepts_128 ?_
      refine lv_aload_n hx hb dX7_accepts_131 rfl (lv_at hl 6 rfl) ?_
      refine zz_getr (k' := 14) hx hb hown zw hB zF_X7_19 zdC_0 rfl rfl dX7_accepts_132 ?_
      refine lv_iload hx hb dX7_accepts_135 (lv_at hl 0 rfl) ?_
      refine lv_iload hx hb dX7_accepts_137 (lv_at hl 2 rfl) ?_
      refine zz_goi hB hA (zz_runV (As := [.ref (a 14), .int v46, .int v31]) (rest := []) hx hb hml hown zw hB zM_X7_152 (zc_X6_insertSign l D ca a I L H.size zz_isT_25 h) zdC_25 rfl rfl hl.1 rfl (Nat.le_of_ble_eq_true rfl) rfl rfl ⟨Nat.le_of_ble_eq_true rfl, Nat.le_of_ble_eq_true rfl⟩ dX7_accepts_139 ⟨Nat.le_of_ble_eq_true rfl, Nat.le_of_ble_eq_true rfl⟩) (fun r139 I139 L139 H locs h hB => ?_)
      refine lv_if_lt (tgt := 149) hx hb dX7_accepts_142 (by decide) (fun c142 => ?_) (fun c142 => ?_)
      · have h := h.1 c142
        refine lv_iconst (v := (0 : Int32)) hx hb dX7_accepts_149 (by decide) ?_
        exact zz_zret hx hb hr hlocks zz_bool0 hB h dX7_accepts_150
      · have h := h.2 c142
        refine lv_iconst (v := (1 : Int32)) hx hb dX7_accepts_145 (by decide) ?_
        refine lv_goto (tgt := 150) hx hb dX7_accepts_146 (by decide) ?_
        exact zz_zret hx hb hr hlocks zz_bool1 hB h dX7_accepts_150
    by_cases q56_3 : v5 = (3 : Int32)
    · have h := h.2.2.1 q56_3
      refine lv_tableIn (tgt := 151) hx hb dX7_accepts_56 (by rw [q56_3] <;> decide) (by rw [q56_3] <;> decide) (by rw [q56_3] <;> rfl) (by decide) ?_
      refine lv_iload hx hb dX7_accepts_151 (lv_at hl 3 rfl) ?_
      refine lv_if_ne (tgt := 180) hx hb dX7_accepts_153 (by decide) (fun c153 => ?_) (fun c153 => ?_)
      · have h := h.1 c153
        refine lv_iconst (v := (0 : Int32)) hx hb dX7_accepts_180 (by decide) ?_
        exact zz_zret hx hb hr hlocks zz_bool0 hB h dX7_accepts_181
      · have h := h.2 c153
        refine lv_iload hx hb dX7_accepts_156 (lv_at hl 2 rfl) ?_
        refine lv_if_ne (tgt := 180) hx hb dX7_accepts_158 (by decide) (fun c158 => ?_) (fun c158 => ?_)
        · have h := h.1 c158
          refine lv_iconst (v := (0 : Int32)) hx hb dX7_accepts_180 (by decide) ?_
          exact zz_zret hx hb hr hlocks zz_bool0 hB h dX7_accepts_181
        · have h := h.2 c158
          refine lv_aload_n hx hb dX7_accepts_161 rfl (lv_at hl 6 rfl) ?_
          refine zz_getr (k' := 25) hx hb hown zw hB zF_X7_30 zdC_0 rfl rfl dX7_accepts_162 ?_
          refine lv_aload_n hx hb dX7_accepts_165 rfl (lv_at hl 6 rfl) ?_
          refine zz_getr (k' := 14) hx hb hown zw hB zF_X7_19 zdC_0 rfl rfl dX7_accepts_166 ?_
          refine lv_iload_n hx hb dX7_accepts_169 rfl (lv_at hl 4 rfl) ?_
          refine zz_goi hB hA (zz_runV (As := [.ref (a 14), .int v14]) (rest := []) hx hb hml hown zw hB zM_X7_156 (zc_X6_flipWord l D ca a I L H.size zz_isT_25 h) zdC_25 rfl rfl hl.1 rfl (Nat.le_of_ble_eq_true rfl) rfl rfl ⟨Nat.le_of_ble_eq_true rfl, Nat.le_of_ble_eq_true rfl⟩ dX7_accepts_170 ⟨Nat.le_of_ble_eq_true rfl, Nat.le_of_ble_eq_true rfl⟩) (fun r170 I170 L170 H locs h hB => ?_)
          refine lv_if_lt (tgt := 180) hx hb dX7_accepts_173 (by decide) (fun c173 => ?_) (fun c173 => ?_)
          · have h := h.1 c173
            refine lv_iconst (v := (0 : Int32)) hx hb dX7_accepts_180 (by decide) ?_
            exact zz_zret hx hb hr hlocks zz_bool0 hB h dX7_accepts_181
          · have h := h.2 c173
            refine lv_iconst (v := (1 : Int32)) hx hb dX7_accepts_176 (by decide) ?_
            refine lv_goto (tgt := 181) hx hb dX7_accepts_177 (by decide) ?_
            exact zz_zret hx hb hr hlocks zz_bool1 hB h dX7_accepts_181
    by_cases q56_4 : v5 = (4 : Int32)
    · have h := h.2.2.2.1 q56_4
      refine lv_tableIn (tgt := 182) hx hb dX7_accepts_56 (by rw [q56_4] <;> decide) (by rw [q56_4] <;> decide) (by rw [q56_4] <;> rfl) (by decide) ?_
      refine lv_aload_n hx hb dX7_accepts_182 rfl (lv_at hl 6 rfl) ?_
      refine zz_getr (k' := 25) hx hb hown zw hB zF_X7_30 zdC_0 rfl rfl dX7_accepts_183 ?_
      refine lv_iload_n hx hb dX7_accepts_186 rfl (lv_at hl 4 rfl) ?_
      refine lv_iload hx hb dX7_accepts_187 (lv_at hl 3 rfl) ?_
      refine lv_iload hx hb dX7_accepts_189 (lv_at hl 2 rfl) ?_
      refine zz_goi hB hA (zz_runV (As := [.int v14, .int v22, .int v31]) (rest := []) hx hb hml hown zw hB zM_X7_159 (zc_X6_changeRule l D ca a I L H.size zz_isT_25 h) zdC_25 rfl rfl hl.1 rfl (Nat.le_of_ble_eq_true rfl) rfl rfl ⟨Nat.le_of_ble_eq_true rfl, Nat.le_of_ble_eq_true rfl⟩ dX7_accepts_191 ⟨Nat.le_of_ble_eq_true rfl, Nat.le_of_ble_eq_true rfl⟩) (fun r191 I191 L191 H locs h hB => ?_)
      refine lv_if_lt (tgt := 201) hx hb dX7_accepts_194 (by decide) (fun c194 => ?_) (fun c194 => ?_)
      · have h := h.1 c194
        refine lv_iconst (v := (0 : Int32)) hx hb dX7_accepts_201 (by decide) ?_
        exact zz_zret hx hb hr hlocks zz_bool0 hB h dX7_accepts_202
      · have h := h.2 c194
        refine lv_iconst (v := (1 : Int32)) hx hb dX7_accepts_197 (by decide) ?_
        refine lv_goto (tgt := 202) hx hb dX7_accepts_198 (by decide) ?_
        exact zz_zret hx hb hr hlocks zz_bool1 hB h dX7_accepts_202
    by_cases q56_5 : v5 = (5 : Int32)
    · have h := h.2.2.2.2.1 q56_5
      refine lv_tableIn (tgt := 203) hx hb dX7_accepts_56 (by rw [q56_5] <;> decide) (by rw [q56_5] <;> decide) (by rw [q56_5] <;> rfl) (by decide) ?_
      refine lv_aload_n hx hb dX7_accepts_203 rfl (lv_at hl 6 rfl) ?_
      refine zz_getr (k' := 25) hx hb hown zw hB zF_X7_30 zdC_0 rfl rfl dX7_accepts_204 ?_
      refine lv_aload_n hx hb dX7_accepts_207 rfl (lv_at hl 6 rfl) ?_
      refine zz_getr (k' := 14) hx hb hown zw hB zF_X7_19 zdC_0 rfl rfl dX7_accepts_208 ?_
      refine lv_iload_n hx hb dX7_accepts_211 rfl (lv_at hl 4 rfl) ?_
      refine lv_iload hx hb dX7_accepts_212 (lv_at hl 3 rfl) ?_
      refine lv_bipush (v := (10 : Int32)) hx hb dX7_accepts_214 (by decide) ?_
      refine lv_imul hx hb dX7_accepts_216 ?_
      refine lv_iload hx hb dX7_accepts_217 (lv_at hl 2 rfl) ?_
      refine lv_iadd hx hb dX7_accepts_219 ?_
      refine zz_goip hB hA (zz_runV (As := [.ref (a 14), .int v14, .int ((v22 * (10 : Int32)) + v31)]) (rest := []) hx hb hml hown zw hB zM_X7_170 (zc_X6_holdsWord l D ca a I L H.size zz_isT_25 h) zdC_25 rfl rfl hl.1 rfl (Nat.le_of_ble_eq_true rfl) rfl rfl ⟨Nat.le_of_ble_eq_true rfl, Nat.le_of_ble_eq_true rfl⟩ dX7_accepts_220 ⟨Nat.le_of_ble_eq_true rfl, Nat.le_of_ble_eq_true rfl⟩) (fun r220 H locs h hB => ?_)
      obtain ⟨hz223, h⟩ := h
      exact zz_zret hx hb hr hlocks hz223 hB h dX7_accepts_223
    by_cases q56_6 : v5 = (6 : Int32)
    · have h := h.2.2.2.2.2.1 q56_6
      refine lv_tableIn (tgt := 224) hx hb dX7_accepts_56 (by rw [q56_6] <;> decide) (by rw [q56_6] <;> decide) (by rw [q56_6] <;> rfl) (by decide) ?_
      refine lv_iload hx hb dX7_accepts_224 (lv_at hl 2 rfl) ?_
      refine lv_if_ne (tgt := 255) hx hb dX7_accepts_226 (by decide) (fun c226 => ?_) (fun c226 => ?_)
      · have h := h.1 c226
        refine lv_iconst (v := (0 : Int32)) hx hb dX7_accepts_255 (by decide) ?_
        exact zz_zret hx hb hr hlocks zz_bool0 hB h dX7_accepts_256
      · have h := h.2 c226
        refine lv_aload_n hx hb dX7_accepts_229 rfl (lv_at hl 6 rfl) ?_
        refine zz_getr (k' := 37) hx hb hown zw hB zF_X7_50 zdC_0 rfl rfl dX7_accepts_230 ?_
        refine lv_aload_n hx hb dX7_accepts_233 rfl (lv_at hl 6 rfl) ?_
        refine zz_getr (k' := 14) hx hb hown zw hB zF_X7_19 zdC_0 rfl rfl dX7_accepts_234 ?_
        refine lv_aload_n hx hb dX7_accepts_237 rfl (lv_at hl 6 rfl) ?_
        refine zz_getr (k' := 25) hx hb hown zw hB zF_X7_30 zdC_0 rfl rfl dX7_accepts_238 ?_
        refine zz_gol hB hA (zz_runV (As := [.ref (a 14), .ref (a 25)]) (rest := []) hx hb hml hown zw hB zM_X7_174 (zc_X0_countAll l D ca a I L H.size zz_isT_25 h) zdC_37 rfl rfl hl.1 rfl (Nat.le_of_ble_eq_true rfl) rfl rfl ⟨Nat.le_of_ble_eq_true rfl, Nat.le_of_ble_eq_true rfl⟩ dX7_accepts_241 ⟨Nat.le_of_ble_eq_true rfl, Nat.le_of_ble_eq_true rfl⟩) (fun r241 I241 L241 H locs h hB => ?_)
        refine lv_iload hx hb dX7_accepts_244 (lv_at hl 0 rfl) ?_
        refine lv_i2l (v := v46.toInt64) hx hb dX7_accepts_246 rfl ?_
        refine zz_l_gt (tgt := 255) hx hb dX7_accepts_247 dX7_accepts_248 (by decide) (fun c247 => ?_) (fun c247 => ?_)
        · have h := h.1 c247
          refine lv_iconst (v := (0 : Int32)) hx hb dX7_accepts_255 (by decide) ?_
          exact zz_zret hx hb hr hlocks zz_bool0 hB h dX7_accepts_256
        · have h := h.2 c247
          refine lv_iconst (v := (1 : Int32)) hx hb dX7_accepts_251 (by decide) ?_
          refine lv_goto (tgt := 256) hx hb dX7_accepts_252 (by decide) ?_
          exact zz_zret hx hb hr hlocks zz_bool1 hB h dX7_accepts_256
    by_cases q56_7 : v5 = (7 : Int32)
    · have h := h.2.2.2.2.2.2.1 q56_7
      refine lv_tableIn (tgt := 257) hx hb dX7_accepts_56 (by rw [q56_7] <;> decide) (by rw [q56_7] <;> decide) (by rw [q56_7] <;> rfl) (by decide) ?_
      refine lv_aload_n hx hb dX7_accepts_257 rfl (lv_at hl 6 rfl) ?_
      refine zz_getr (k' := 25) hx hb hown zw hB zF_X7_30 zdC_0 rfl rfl dX7_accepts_258 ?_
      refine lv_iload hx hb dX7_accepts_261 (lv_at hl 0 rfl) ?_
      refine zz_goip hB hA (zz_runV (As := [.int v46]) (rest := []) hx hb hml hown zw hB zM_X7_132 (zc_X6_hasUnit l D ca a I L H.size zz_isT_25 h) zdC_25 rfl rfl hl.1 rfl (Nat.le_of_ble_eq_true rfl) rfl rfl ⟨Nat.le_of_ble_eq_true rfl, Nat.le_of_ble_eq_true rfl⟩ dX7_accepts_263 ⟨Nat.le_of_ble_eq_true rfl, Nat.le_of_ble_eq_true rfl⟩) (fun r263 H locs h hB => ?_)
      refine lv_if_eq (tgt := 296) hx hb dX7_accepts_266 (by decide) (fun c266 => ?_) (fun c266 => ?_)
      · have h := h.1 c266
        refine lv_iconst (v := (0 : Int32)) hx hb dX7_accepts_296 (by decide) ?_
        exact zz_zret hx hb hr hlocks zz_bool0 hB h dX7_accepts_297
      · have h := h.2 c266
        refine lv_iload hx hb dX7_accepts_269 (lv_at hl 2 rfl) ?_
        refine zz_goip hB hA (zz_runS (As := [.int v31]) (rest := []) hx hb hml hown zw hB zM_X7_195 (zc_X7_isSign l D ca a I L H.size h) rfl hl.1 rfl (Nat.le_of_ble_eq_true rfl) rfl rfl ⟨Nat.le_of_ble_eq_true rfl, Nat.le_of_ble_eq_true rfl⟩ dX7_accepts_271 ⟨Nat.le_of_ble_eq_true rfl, Nat.le_of_ble_eq_true rfl⟩) (fun r271 H locs h hB => ?_)
        refine lv_if_eq (tgt := 296) hx hb dX7_accepts_274 (by decide) (fun c274 => ?_) (fun c274 => ?_)
        · have h := h.1 c274
          refine lv_iconst (v := (0 : Int32)) hx hb dX7_accepts_296 (by decide) ?_
          exact zz_zret hx hb hr hlocks zz_bool0 hB h dX7_accepts_297
        · have h := h.2 c274
          refine lv_aload_n hx hb dX7_accepts_277 rfl (lv_at hl 6 rfl) ?_
          refine lv_aload_n hx hb dX7_accepts_278 rfl (lv_at hl 6 rfl) ?_
          refine zz_getr (k' := 25) hx hb hown zw hB zF_X7_30 zdC_0 rfl rfl dX7_accepts_279 ?_
          refine lv_iload hx hb dX7_accepts_282 (lv_at hl 0 rfl) ?_
          refine zz_goi hB hA (zz_runV (As := [.ref (a 25), .int v46]) (rest := []) hx hb hml hown zw hB zM_X7_211 (zc_X7_certainSign l D ca a I L H.size zz_isT_25 h) zdC_0 rfl rfl hl.1 rfl (Nat.le_of_ble_eq_true rfl) rfl rfl ⟨Nat.le_of_ble_eq_true rfl, Nat.le_of_ble_eq_true rfl⟩ dX7_accepts_284 ⟨Nat.le_of_ble_eq_true rfl, Nat.le_of_ble_eq_true rfl⟩) (fun r284 I284 L284 H locs h hB => ?_)
          refine lv_iload hx hb dX7_accepts_287 (lv_at hl 2 rfl) ?_
          refine lv_icmp_ne (tgt := 296) hx hb dX7_accepts_289 (by decide) (fun c289 => ?_) (fun c289 => ?_)
          · have h := h.1 c289
            refine lv_iconst (v := (0 : Int32)) hx hb dX7_accepts_296 (by decide) ?_
            exact zz_zret hx hb hr hlocks zz_bool0 hB h dX7_accepts_297
          · have h := h.2 c289
            refine lv_iconst (v := (1 : Int32)) hx hb dX7_accepts_292 (by decide) ?_
            refine lv_goto (tgt := 297) hx hb dX7_accepts_293 (by decide) ?_
            exact zz_zret hx hb hr hlocks zz_bool1 hB h dX7_accepts_297
    have h := h.2.2.2.2.2.2.2 q56_1 q56_2 q56_3 q56_4 q56_5 q56_6 q56_7
    have hts56 : v5.toInt < 1 ∨ 7 < v5.toInt := by
      have z1 := zz_ne_int q56_1
      have z2 := zz_ne_int q56_2
      have z3 := zz_ne_int q56_3
      have z4 := zz_ne_int q56_4
      have z5 := zz_ne_int q56_5
      have z6 := zz_ne_int q56_6
      have z7 := zz_ne_int q56_7
      have e0 : ((1 : Int32)).toInt = 1 ∧ ((2 : Int32)).toInt = 2 ∧ ((3 : Int32)).toInt = 3 ∧ ((4 : Int32)).toInt = 4 ∧ ((5 : Int32)).toInt = 5 ∧ ((6 : Int32)).toInt = 6 ∧ ((7 : Int32)).toInt = 7 := by decide
      omega
    refine lv_tableOut (tgt := 298) hx hb dX7_accepts_56 hts56 (by decide) ?_
    refine lv_iconst (v := (0 : Int32)) hx hb dX7_accepts_298 (by decide) ?_
    exact zz_zret hx hb hr hlocks zz_bool0 hB h dX7_accepts_299
  · have h := h.2 c50
    refine lv_iconst (v := (0 : Int32)) hx hb dX7_accepts_53 (by decide) ?_
    exact zz_zret hx hb hr hlocks zz_bool0 hB h dX7_accepts_54
theorem zc_X7_accepts (l : Launch) (D : va_G) (ca : Nat → ClassId) (a : Nat → Nat) (I : zz_I) (L : zz_L) (sz : Nat) {x1 : Int32} {P : Int32 → zz_I → zz_L → Prop}  (h : zp_X7_accepts x1 P I L) : Met l yX7_accepts [.code yX7_accepts cX7_accepts 8 (some .boolean)] ({ frames := 5, cells := 0, slots := 0, locals := 124 } : Room) (zz_Pre D ca zz_dC [.ref (a 0), .int x1] a I L sz) (zz_Qi D ca zz_dC (zz_A ca zz_dC a I L sz) a P) 0 0 (zz_A ca zz_dC a I L sz) :=
  zz_start (by decide) (Nat.le_of_ble_eq_true rfl) (fun p e s m below meth c X hsz hA => zq_X7_accepts X hA  h)
def zp_X7_again_26  (P : Int32 → zz_I → zz_L → Prop) (x1 : Int32) (s0 : Int32) (I : zz_I) (L : zz_L) : Prop := (¬ s0 = 0 → (¬ x1 = 0 → zp_X6_copyFrom 21 52 (fun I53 L53 => zp_X1_forget  (fun I60 L60 => P (I60 14 6) I60 L60) I53 L53) I L) ∧ (x1 = 0 → zp_X6_copyFrom 21 48 (fun I53 L53 => zp_X1_forget  (fun I60 L60 => P (I60 14 6) I60 L60) I53 L53) I L)) ∧ (s0 = 0 → P (-3 : Int32) I L)
set_option maxHeartbeats 4000000 in
set_option maxRecDepth 100000 in
theorem zq_X7_again_26 {p : Program} {l : Launch} {e : Env} {s : State} {m : MethodId} {args : Array Value} {below : List Frame} {meth : Method} {c : Code} {D : va_G} {ca : Nat → ClassId} {A : Nat → Prop} {a : Nat → Nat}  {P : Int32 → zz_I → zz_L → Prop} {I : zz_I} {L : zz_L} {x1 : Int32} {s0 : Int32} (X : zz_X p s m meth c cX7_again RX7 (some .int) 3) (hA : ∀ q, s.heap.size ≤ q → A q)   (h : zp_X7_again_26  P x1 s0 I L) : zz_Go p l e ({ frames := 2, cells := 0, slots := 0, locals := 61 } : Room) s m args below meth c 0 0 (MQ below (zz_Qi D ca zz_dC A a P) args s 0 0 A) D ca zz_dC A 3 26 a [.int s0] [(0, .ref (a 0)), (1, .int x1)] I L := by
  obtain ⟨hx, hb, hml, hown, zw, hr, hlocks⟩ := id X
  intro H locs ls hB hl
  unfold zp_X7_again_26 at h
  refine lv_istore_n (lv' := [(2, .int s0), (0, .ref (a 0)), (1, .int x1)]) hx hb dX7_again_26 rfl hl (by decide) rfl (fun ls hl => ?_)
  refine lv_iload_n hx hb dX7_again_27 rfl (lv_at hl 0 rfl) ?_
  refine lv_if_ne (tgt := 34) hx hb dX7_again_28 (by decide) (fun c28 => ?_) (fun c28 => ?_)
  · have h := h.1 c28
    refine lv_aload_n hx hb dX7_again_34 rfl (lv_at hl 1 rfl) ?_
    refine zz_getr (k' := 21) hx hb hown zw hB zF_X7_26 zdC_0 rfl rfl dX7_again_35 ?_
    refine lv_iload_n hx hb dX7_again_38 rfl (lv_at hl 2 rfl) ?_
    refine lv_if_ne (tgt := 49) hx hb dX7_again_39 (by decide) (fun c39 => ?_) (fun c39 => ?_)
    · have h := h.1 c39
      refine lv_aload_n hx hb dX7_again_49 rfl (lv_at hl 1 rfl) ?_
      refine zz_getr (k' := 52) hx hb hown zw hB zF_X7_64 zdC_0 rfl rfl dX7_again_50 ?_
      refine zz_gov hB hA (zz_runV (As := [.ref (a 52)]) (rest := []) hx hb hml hown zw hB zM_X7_96 (zc_X6_copyFrom l D ca a I L H.size zz_isT_21 zz_isT_52 h) zdC_21 rfl rfl hl.1 rfl (Nat.le_of_ble_eq_true rfl) rfl rfl ⟨Nat.le_of_ble_eq_true rfl, Nat.le_of_ble_eq_true rfl⟩ dX7_again_53 ⟨Nat.le_of_ble_eq_true rfl, Nat.le_of_ble_eq_true rfl⟩) (fun I53 L53 H locs h hB => ?_)
      refine lv_aload_n hx hb dX7_again_56 rfl (lv_at hl 1 rfl) ?_
      refine zz_getr (k' := 29) hx hb hown zw hB zF_X7_36 zdC_0 rfl rfl dX7_again_57 ?_
      refine zz_gov hB hA (zz_runV (As := []) (rest := []) hx hb hml hown zw hB zM_X7_99 (zc_X1_forget l D ca a I53 L53 H.size h) zdC_29 rfl rfl hl.1 rfl (Nat.le_of_ble_eq_true rfl) rfl rfl ⟨Nat.le_of_ble_eq_true rfl, Nat.le_of_ble_eq_true rfl⟩ dX7_again_60 ⟨Nat.le_of_ble_eq_true rfl, Nat.le_of_ble_eq_true rfl⟩) (fun I60 L60 H locs h hB => ?_)
      refine lv_aload_n hx hb dX7_again_63 rfl (lv_at hl 1 rfl) ?_
      refine zz_getr (k' := 14) hx hb hown zw hB zF_X7_19 zdC_0 rfl rfl dX7_again_64 ?_
      refine zz_geti hx hb hown zw hB zF_X7_263 zdC_14 rfl dX7_again_67 ?_
      exact zz_iret hx hb hr hlocks hB h dX7_again_70
    · have h := h.2 c39
      refine lv_aload_n hx hb dX7_again_42 rfl (lv_at hl 1 rfl) ?_
      refine zz_getr (k' := 48) hx hb hown zw hB zF_X7_61 zdC_0 rfl rfl dX7_again_43 ?_
      refine lv_goto (tgt := 53) hx hb dX7_again_46 (by decide) ?_
      refine zz_gov hB hA (zz_runV (As := [.ref (a 48)]) (rest := []) hx hb hml hown zw hB zM_X7_96 (zc_X6_copyFrom l D ca a I L H.size zz_isT_21 zz_isT_48 h) zdC_21 rfl rfl hl.1 rfl (Nat.le_of_ble_eq_true rfl) rfl rfl ⟨Nat.le_of_ble_eq_true rfl, Nat.le_of_ble_eq_true rfl⟩ dX7_again_53 ⟨Nat.le_of_ble_eq_true rfl, Nat.le_of_ble_eq_true rfl⟩) (fun I53 L53 H locs h hB => ?_)
      refine lv_aload_n hx hb dX7_again_56 rfl (lv_at hl 1 rfl) ?_
      refine zz_getr (k' := 29) hx hb hown zw hB zF_X7_36 zdC_0 rfl rfl dX7_again_57 ?_
      refine zz_gov hB hA (zz_runV (As := []) (rest := []) hx hb hml hown zw hB zM_X7_99 (zc_X1_forget l D ca a I53 L53 H.size h) zdC_29 rfl rfl hl.1 rfl (Nat.le_of_ble_eq_true rfl) rfl rfl ⟨Nat.le_of_ble_eq_true rfl, Nat.le_of_ble_eq_true rfl⟩ dX7_again_60 ⟨Nat.le_of_ble_eq_true rfl, Nat.le_of_ble_eq_true rfl⟩) (fun I60 L60 H locs h hB => ?_)
      refine lv_aload_n hx hb dX7_again_63 rfl (lv_at hl 1 rfl) ?_
      refine zz_getr (k' := 14) hx hb hown zw hB zF_X7_19 zdC_0 rfl rfl dX7_again_64 ?_
      refine zz_geti hx hb hown zw hB zF_X7_263 zdC_14 rfl dX7_again_67 ?_
      exact zz_iret hx hb hr hlocks hB h dX7_again_70
  · have h := h.2 c28
    refine lv_bipush (v := (-3 : Int32)) hx hb dX7_again_31 (by decide) ?_
    exact zz_iret hx hb hr hlocks hB h dX7_again_33
def zp_X7_again (x1 : Int32) (P : Int32 → zz_I → zz_L → Prop) (I : zz_I) (L : zz_L) : Prop := (x1 < 0 → P (-1 : Int32) I L) ∧ (¬ x1 < 0 → (x1 < (2 : Int32) → (¬ x1 = 0 → zp_X7_again_26 P x1 (I 0 11) I L) ∧ (x1 = 0 → zp_X7_again_26 P x1 (I 0 10) I L)) ∧ (¬ x1 < (2 : Int32) → P (-1 : Int32) I L))
set_option maxHeartbeats 4000000 in
set_option maxRecDepth 100000 in
theorem zq_X7_again {p : Program} {l : Launch} {e : Env} {s : State} {m : MethodId} {args : Array Value} {below : List Frame} {meth : Method} {c : Code} {D : va_G} {ca : Nat → ClassId} {A : Nat → Prop} {a : Nat → Nat}  {P : Int32 → zz_I → zz_L → Prop} {I : zz_I} {L : zz_L} {x1 : Int32} (X : zz_X p s m meth c cX7_again RX7 (some .int) 3) (hA : ∀ q, s.heap.size ≤ q → A q)   (h : zp_X7_again x1 P I L) : zz_Go p l e ({ frames := 2, cells := 0, slots := 0, locals := 61 } : Room) s m args below meth c 0 0 (MQ below (zz_Qi D ca zz_dC A a P) args s 0 0 A) D ca zz_dC A 3 0 a [] [(0, .ref (a 0)), (1, .int x1)] I L := by
  obtain ⟨hx, hb, hml, hown, zw, hr, hlocks⟩ := id X
  intro H locs ls hB hl
  unfold zp_X7_again at h
  refine lv_iload_n hx hb dX7_again_0 rfl (lv_at hl 1 rfl) ?_
  refine lv_if_lt (tgt := 9) hx hb dX7_again_1 (by decide) (fun c1 => ?_) (fun c1 => ?_)
  · have h := h.1 c1
    refine lv_iconst (v := (-1 : Int32)) hx hb dX7_again_9 (by decide) ?_
    exact zz_iret hx hb hr hlocks hB h dX7_again_10
  · have h := h.2 c1
    refine lv_iload_n hx hb dX7_again_4 rfl (lv_at hl 1 rfl) ?_
    refine lv_iconst (v := (2 : Int32)) hx hb dX7_again_5 (by decide) ?_
    refine lv_icmp_lt (tgt := 11) hx hb dX7_again_6 (by decide) (fun c6 => ?_) (fun c6 => ?_)
    · have h := h.1 c6
      refine lv_iload_n hx hb dX7_again_11 rfl (lv_at hl 1 rfl) ?_
      refine lv_if_ne (tgt := 22) hx hb dX7_again_12 (by decide) (fun c12 => ?_) (fun c12 => ?_)
      · have h := h.1 c12
        refine lv_aload_n hx hb dX7_again_22 rfl (lv_at hl 0 rfl) ?_
        refine zz_geti hx hb hown zw hB zF_X7_71 zdC_0 rfl dX7_again_23 ?_
        exact zq_X7_again_26 X hA  h H locs ls hB (lv_sub hl [0, 1] rfl)
      · have h := h.2 c12
        refine lv_aload_n hx hb dX7_again_15 rfl (lv_at hl 0 rfl) ?_
        refine zz_geti hx hb hown zw hB zF_X7_67 zdC_0 rfl dX7_again_16 ?_
        refine lv_goto (tgt := 26) hx hb dX7_again_19 (by decide) ?_
        exact zq_X7_again_26 X hA  h H locs ls hB (lv_sub hl [0, 1] rfl)
    · have h := h.2 c6
      refine lv_iconst (v := (-1 : Int32)) hx hb dX7_again_9 (by decide) ?_
      exact zz_iret hx hb hr hlocks hB h dX7_again_10
theorem zc_X7_again (l : Launch) (D : va_G) (ca : Nat → ClassId) (a : Nat → Nat) (I : zz_I) (L : zz_L) (sz : Nat) {x1 : Int32} {P : Int32 → zz_I → zz_L → Prop}  (h : zp_X7_again x1 P I L) : Met l yX7_again [.code yX7_again cX7_again 3 (some .int)] ({ frames := 2, cells := 0, slots := 0, locals := 61 } : Room) (zz_Pre D ca zz_dC [.ref (a 0), .int x1] a I L sz) (zz_Qi D ca zz_dC (zz_A ca zz_dC a I L sz) a P) 0 0 (zz_A ca zz_dC a I L sz) :=
  zz_start (by decide) (Nat.le_of_ble_eq_true rfl) (fun p e s m below meth c X hsz hA => zq_X7_again X hA  h)
def zp_X7_bar (x1 : Int32) (P : Int32 → zz_I → zz_L → Prop) (I : zz_I) (L : zz_L) : Prop := zp_X6_flipWord 21 x1 (fun r9 I9 L9 => (r9 < 0 → P r9 I9 L9) ∧ (¬ r9 < 0 → zp_X1_record (2 : Int32) x1 (0 : Int32) (fun I24 L24 => P r9 I24 L24) I9 L9)) I L
set_option maxHeartbeats 4000000 in
set_option maxRecDepth 100000 in
theorem zq_X7_bar {p : Program} {l : Launch} {e : Env} {s : State} {m : MethodId} {args : Array Value} {below : List Frame} {meth : Method} {c : Code} {D : va_G} {ca : Nat → ClassId} {A : Nat → Prop} {a : Nat → Nat}  {P : Int32 → zz_I → zz_L → Prop} {I : zz_I} {L : zz_L} {x1 : Int32} (X : zz_X p s m meth c cX7_bar RX7 (some .int) 3) (hA : ∀ q, s.heap.size ≤ q → A q)   (h : zp_X7_bar x1 P I L) : zz_Go p l e ({ frames := 2, cells := 0, slots := 0, locals := 44 } : Room) s m args below meth c 0 0 (MQ below (zz_Qi D ca zz_dC A a P) args s 0 0 A) D ca zz_dC A 3 0 a [] [(0, .ref (a 0)), (1, .int x1)] I L := by
  obtain ⟨hx, hb, hml, hown, zw, hr, hlocks⟩ := id X
  intro H locs ls hB hl
  unfold zp_X7_bar at h
  refine lv_aload_n hx hb dX7_bar_0 rfl (lv_at hl 0 rfl) ?_
  refine zz_getr (k' := 21) hx hb hown zw hB zF_X7_26 zdC_0 rfl rfl dX7_bar_1 ?_
  refine lv_aload_n hx hb dX7_bar_4 rfl (lv_at hl 0 rfl) ?_
  refine zz_getr (k' := 14) hx hb hown zw hB zF_X7_19 zdC_0 rfl rfl dX7_bar_5 ?_
  refine lv_iload_n hx hb dX7_bar_8 rfl (lv_at hl 1 rfl) ?_
  refine zz_goi hB hA (zz_runV (As := [.ref (a 14), .int x1]) (rest := []) hx hb hml hown zw hB zM_X7_156 (zc_X6_flipWord l D ca a I L H.size zz_isT_21 h) zdC_21 rfl rfl hl.1 rfl (Nat.le_of_ble_eq_true rfl) rfl rfl ⟨Nat.le_of_ble_eq_true rfl, Nat.le_of_ble_eq_true rfl⟩ dX7_bar_9 ⟨Nat.le_of_ble_eq_true rfl, Nat.le_of_ble_eq_true rfl⟩) (fun r9 I9 L9 H locs h hB => ?_)
  refine lv_istore_n (lv' := [(2, .int r9), (0, .ref (a 0)), (1, .int x1)]) hx hb dX7_bar_12 rfl hl (by decide) rfl (fun ls hl => ?_)
  refine lv_iload_n hx hb dX7_bar_13 rfl (lv_at hl 0 rfl) ?_
  refine lv_if_lt (tgt := 27) hx hb dX7_bar_14 (by decide) (fun c14 => ?_) (fun c14 => ?_)
  · have h := h.1 c14
    refine lv_iload_n hx hb dX7_bar_27 rfl (lv_at hl 0 rfl) ?_
    exact zz_iret hx hb hr hlocks hB h dX7_bar_28
  · have h := h.2 c14
    refine lv_aload_n hx hb dX7_bar_17 rfl (lv_at hl 1 rfl) ?_
    refine zz_getr (k' := 29) hx hb hown zw hB zF_X7_36 zdC_0 rfl rfl dX7_bar_18 ?_
    refine lv_iconst (v := (2 : Int32)) hx hb dX7_bar_21 (by decide) ?_
    refine lv_iload_n hx hb dX7_bar_22 rfl (lv_at hl 2 rfl) ?_
    refine lv_iconst (v := (0 : Int32)) hx hb dX7_bar_23 (by decide) ?_
    refine zz_gov hB hA (zz_runV (As := [.int (2 : Int32), .int x1, .int (0 : Int32)]) (rest := []) hx hb hml hown zw hB zM_X7_148 (zc_X1_record l D ca a I9 L9 H.size h) zdC_29 rfl rfl hl.1 rfl (Nat.le_of_ble_eq_true rfl) rfl rfl ⟨Nat.le_of_ble_eq_true rfl, Nat.le_of_ble_eq_true rfl⟩ dX7_bar_24 ⟨Nat.le_of_ble_eq_true rfl, Nat.le_of_ble_eq_true rfl⟩) (fun I24 L24 H locs h hB => ?_)
    refine lv_iload_n hx hb dX7_bar_27 rfl (lv_at hl 0 rfl) ?_
    exact zz_iret hx hb hr hlocks hB h dX7_bar_28
theorem zc_X7_bar (l : Launch) (D : va_G) (ca : Nat → ClassId) (a : Nat → Nat) (I : zz_I) (L : zz_L) (sz : Nat) {x1 : Int32} {P : Int32 → zz_I → zz_L → Prop}  (h : zp_X7_bar x1 P I L) : Met l yX7_bar [.code yX7_bar cX7_bar 3 (some .int)] ({ frames := 2, cells := 0, slots := 0, locals := 44 } : Room) (zz_Pre D ca zz_dC [.ref (a 0), .int x1] a I L sz) (zz_Qi D ca zz_dC (zz_A ca zz_dC a I L sz) a P) 0 0 (zz_A ca zz_dC a I L sz) :=
  zz_start (by decide) (Nat.le_of_ble_eq_true rfl) (fun p e s m below meth c X hsz hA => zq_X7_bar X hA  h)
def zp_X7_begins (x1 : Int32) (x2 : Int32) (P : Int64 → zz_I → zz_L → Prop) (I : zz_I) (L : zz_L) : Prop := zp_X2_hasWord x1 (fun r5 => (r5 = 0 → P (-1 : Int64) I L) ∧ (¬ r5 = 0 → zp_X6_hasUnit 21 x2 (fun r16 => (¬ r16 = 0 → zp_X0_countAll 21 (fun r38 I38 L38 => zp_X0_countHeads  (fun I46 L46 => zp_X0_countThrough x2 x1 (fun r55 => P r55 I46 L46) I46 L46) I38 L38) I L) ∧ (r16 = 0 → P (-1 : Int64) I L)) I L)) I L
set_option maxHeartbeats 4000000 in
set_option maxRecDepth 100000 in
theorem zq_X7_begins {p : Program} {l : Launch} {e : Env} {s : State} {m : MethodId} {args : Array Value} {below : List Frame} {meth : Method} {c : Code} {D : va_G} {ca : Nat → ClassId} {A : Nat → Prop} {a : Nat → Nat}  {P : Int64 → zz_I → zz_L → Prop} {I : zz_I} {L : zz_L} {x1 : Int32} {x2 : Int32} (X : zz_X p s m meth c cX7_begins RX7 (some .long) 3) (hA : ∀ q, s.heap.size ≤ q → A q)   (h : zp_X7_begins x1 x2 P I L) : zz_Go p l e ({ frames := 4, cells := 0, slots := 0, locals := 99 } : Room) s m args below meth c 0 0 (MQ below (zz_Ql D ca zz_dC A a P) args s 0 0 A) D ca zz_dC A 3 0 a [] [(0, .ref (a 0)), (1, .int x1), (2, .int x2)] I L := by
  obtain ⟨hx, hb, hml, hown, zw, hr, hlocks⟩ := id X
  intro H locs ls hB hl
  unfold zp_X7_begins at h
  refine lv_aload_n hx hb dX7_begins_0 rfl (lv_at hl 0 rfl) ?_
  refine zz_getr (k' := 14) hx hb hown zw hB zF_X7_19 zdC_0 rfl rfl dX7_begins_1 ?_
  refine lv_iload_n hx hb dX7_begins_4 rfl (lv_at hl 1 rfl) ?_
  refine zz_goip hB hA (zz_runV (As := [.int x1]) (rest := []) hx hb hml hown zw hB zM_X7_105 (zc_X2_hasWord l D ca a I L H.size h) zdC_14 rfl rfl hl.1 rfl (Nat.le_of_ble_eq_true rfl) rfl rfl ⟨Nat.le_of_ble_eq_true rfl, Nat.le_of_ble_eq_true rfl⟩ dX7_begins_5 ⟨Nat.le_of_ble_eq_true rfl, Nat.le_of_ble_eq_true rfl⟩) (fun r5 H locs h hB => ?_)
  refine lv_if_eq (tgt := 22) hx hb dX7_begins_8 (by decide) (fun c8 => ?_) (fun c8 => ?_)
  · have h := h.1 c8
    refine lv_ldc2 (v := (-1 : Int64)) hx hb hown (zz_W_use zw zk_X7_193 rfl) dX7_begins_22 ?_
    exact zz_lret hx hb hr hlocks hB h dX7_begins_25
  · have h := h.2 c8
    refine lv_aload_n hx hb dX7_begins_11 rfl (lv_at hl 0 rfl) ?_
    refine zz_getr (k' := 21) hx hb hown zw hB zF_X7_26 zdC_0 rfl rfl dX7_begins_12 ?_
    refine lv_iload_n hx hb dX7_begins_15 rfl (lv_at hl 2 rfl) ?_
    refine zz_goip hB hA (zz_runV (As := [.int x2]) (rest := []) hx hb hml hown zw hB zM_X7_132 (zc_X6_hasUnit l D ca a I L H.size zz_isT_21 h) zdC_21 rfl rfl hl.1 rfl (Nat.le_of_ble_eq_true rfl) rfl rfl ⟨Nat.le_of_ble_eq_true rfl, Nat.le_of_ble_eq_true rfl⟩ dX7_begins_16 ⟨Nat.le_of_ble_eq_true rfl, Nat.le_of_ble_eq_true rfl⟩) (fun r16 H locs h hB => ?_)
    refine lv_if_ne (tgt := 26) hx hb dX7_begins_19 (by decide) (fun c19 => ?_) (fun c19 => ?_)
    · have h := h.1 c19
      refine lv_aload_n hx hb dX7_begins_26 rfl (lv_at hl 0 rfl) ?_
      refine zz_getr (k' := 37) hx hb hown zw hB zF_X7_50 zdC_0 rfl rfl dX7_begins_27 ?_
      refine lv_aload_n hx hb dX7_begins_30 rfl (lv_at hl 0 rfl) ?_
      refine zz_getr (k' := 14) hx hb hown zw hB zF_X7_19 zdC_0 rfl rfl dX7_begins_31 ?_
      refine lv_aload_n hx hb dX7_begins_34 rfl (lv_at hl 0 rfl) ?_
      refine zz_getr (k' := 21) hx hb hown zw hB zF_X7_26 zdC_0 rfl rfl dX7_begins_35 ?_
      refine zz_gol hB hA (zz_runV (As := [.ref (a 14), .ref (a 21)]) (rest := []) hx hb hml hown zw hB zM_X7_174 (zc_X0_countAll l D ca a I L H.size zz_isT_21 h) zdC_37 rfl rfl hl.1 rfl (Nat.le_of_ble_eq_true rfl) rfl rfl ⟨Nat.le_of_ble_eq_true rfl, Nat.le_of_ble_eq_true rfl⟩ dX7_begins_38 ⟨Nat.le_of_ble_eq_true rfl, Nat.le_of_ble_eq_true rfl⟩) (fun r38 I38 L38 H locs h hB => ?_)
      refine lv_pop2_2 hx hb dX7_begins_41 rfl ?_
      refine lv_aload_n hx hb dX7_begins_42 rfl (lv_at hl 0 rfl) ?_
      refine zz_getr (k' := 37) hx hb hown zw hB zF_X7_50 zdC_0 rfl rfl dX7_begins_43 ?_
      refine zz_gov hB hA (zz_runV (As := []) (rest := []) hx hb hml hown zw hB zM_X7_200 (zc_X0_countHeads l D ca a I38 L38 H.size h) zdC_37 rfl rfl hl.1 rfl (Nat.le_of_ble_eq_true rfl) rfl rfl ⟨Nat.le_of_ble_eq_true rfl, Nat.le_of_ble_eq_true rfl⟩ dX7_begins_46 ⟨Nat.le_of_ble_eq_true rfl, Nat.le_of_ble_eq_true rfl⟩) (fun I46 L46 H locs h hB => ?_)
      refine lv_aload_n hx hb dX7_begins_49 rfl (lv_at hl 0 rfl) ?_
      refine zz_getr (k' := 37) hx hb hown zw hB zF_X7_50 zdC_0 rfl rfl dX7_begins_50 ?_
      refine lv_iload_n hx hb dX7_begins_53 rfl (lv_at hl 2 rfl) ?_
      refine lv_iload_n hx hb dX7_begins_54 rfl (lv_at hl 1 rfl) ?_
      refine zz_golp hB hA (zz_runV (As := [.int x2, .int x1]) (rest := []) hx hb hml hown zw hB zM_X7_207 (zc_X0_countThrough l D ca a I46 L46 H.size h) zdC_37 rfl rfl hl.1 rfl (Nat.le_of_ble_eq_true rfl) rfl rfl ⟨Nat.le_of_ble_eq_true rfl, Nat.le_of_ble_eq_true rfl⟩ dX7_begins_55 ⟨Nat.le_of_ble_eq_true rfl, Nat.le_of_ble_eq_true rfl⟩) (fun r55 H locs h hB => ?_)
      exact zz_lret hx hb hr hlocks hB h dX7_begins_58
    · have h := h.2 c19
      refine lv_ldc2 (v := (-1 : Int64)) hx hb hown (zz_W_use zw zk_X7_193 rfl) dX7_begins_22 ?_
      exact zz_lret hx hb hr hlocks hB h dX7_begins_25
theorem zc_X7_begins (l : Launch) (D : va_G) (ca : Nat → ClassId) (a : Nat → Nat) (I : zz_I) (L : zz_L) (sz : Nat) {x1 : Int32} {x2 : Int32} {P : Int64 → zz_I → zz_L → Prop}  (h : zp_X7_begins x1 x2 P I L) : Met l yX7_begins [.code yX7_begins cX7_begins 3 (some .long)] ({ frames := 4, cells := 0, slots := 0, locals := 99 } : Room) (zz_Pre D ca zz_dC [.ref (a 0), .int x1, .int x2] a I L sz) (zz_Ql D ca zz_dC (zz_A ca zz_dC a I L sz) a P) 0 0 (zz_A ca zz_dC a I L sz) :=
  zz_start (by decide) (Nat.le_of_ble_eq_true rfl) (fun p e s m below meth c X hsz hA => zq_X7_begins X hA  h)
def zp_X7_carve (x1 : Int32) (x2 : Int32) (P : Int32 → zz_I → zz_L → Prop) (I : zz_I) (L : zz_L) : Prop := zp_X6_insertSign 21 x1 x2 (fun r10 I10 L10 => (r10 < 0 → P r10 I10 L10) ∧ (¬ r10 < 0 → zp_X1_record (1 : Int32) x1 x2 (fun I25 L25 => P r10 I25 L25) I10 L10)) I L
set_option maxHeartbeats 4000000 in
set_option maxRecDepth 100000 in
theorem zq_X7_carve {p : Program} {l : Launch} {e : Env} {s : State} {m : MethodId} {args : Array Value} {below : List Frame} {meth : Method} {c : Code} {D : va_G} {ca : Nat → ClassId} {A : Nat → Prop} {a : Nat → Nat}  {P : Int32 → zz_I → zz_L → Prop} {I : zz_I} {L : zz_L} {x1 : Int32} {x2 : Int32} (X : zz_X p s m meth c cX7_carve RX7 (some .int) 4) (hA : ∀ q, s.heap.size ≤ q → A q)   (h : zp_X7_carve x1 x2 P I L) : zz_Go p l e ({ frames := 3, cells := 0, slots := 0, locals := 69 } : Room) s m args below meth c 0 0 (MQ below (zz_Qi D ca zz_dC A a P) args s 0 0 A) D ca zz_dC A 4 0 a [] [(0, .ref (a 0)), (1, .int x1), (2, .int x2)] I L := by
  obtain ⟨hx, hb, hml, hown, zw, hr, hlocks⟩ := id X
  intro H locs ls hB hl
  unfold zp_X7_carve at h
  refine lv_aload_n hx hb dX7_carve_0 rfl (lv_at hl 0 rfl) ?_
  refine zz_getr (k' := 21) hx hb hown zw hB zF_X7_26 zdC_0 rfl rfl dX7_carve_1 ?_
  refine lv_aload_n hx hb dX7_carve_4 rfl (lv_at hl 0 rfl) ?_
  refine zz_getr (k' := 14) hx hb hown zw hB zF_X7_19 zdC_0 rfl rfl dX7_carve_5 ?_
  refine lv_iload_n hx hb dX7_carve_8 rfl (lv_at hl 1 rfl) ?_
  refine lv_iload_n hx hb dX7_carve_9 rfl (lv_at hl 2 rfl) ?_
  refine zz_goi hB hA (zz_runV (As := [.ref (a 14), .int x1, .int x2]) (rest := []) hx hb hml hown zw hB zM_X7_152 (zc_X6_insertSign l D ca a I L H.size zz_isT_21 h) zdC_21 rfl rfl hl.1 rfl (Nat.le_of_ble_eq_true rfl) rfl rfl ⟨Nat.le_of_ble_eq_true rfl, Nat.le_of_ble_eq_true rfl⟩ dX7_carve_10 ⟨Nat.le_of_ble_eq_true rfl, Nat.le_of_ble_eq_true rfl⟩) (fun r10 I10 L10 H locs h hB => ?_)
  refine lv_istore_n (lv' := [(3, .int r10), (0, .ref (a 0)), (1, .int x1), (2, .int x2)]) hx hb dX7_carve_13 rfl hl (by decide) rfl (fun ls hl => ?_)
  refine lv_iload_n hx hb dX7_carve_14 rfl (lv_at hl 0 rfl) ?_
  refine lv_if_lt (tgt := 28) hx hb dX7_carve_15 (by decide) (fun c15 => ?_) (fun c15 => ?_)
  · have h := h.1 c15
    refine lv_iload_n hx hb dX7_carve_28 rfl (lv_at hl 0 rfl) ?_
    exact zz_iret hx hb hr hlocks hB h dX7_carve_29
  · have h := h.2 c15
    refine lv_aload_n hx hb dX7_carve_18 rfl (lv_at hl 1 rfl) ?_
    refine zz_getr (k' := 29) hx hb hown zw hB zF_X7_36 zdC_0 rfl rfl dX7_carve_19 ?_
    refine lv_iconst (v := (1 : Int32)) hx hb dX7_carve_22 (by decide) ?_
    refine lv_iload_n hx hb dX7_carve_23 rfl (lv_at hl 2 rfl) ?_
    refine lv_iload_n hx hb dX7_carve_24 rfl (lv_at hl 3 rfl) ?_
    refine zz_gov hB hA (zz_runV (As := [.int (1 : Int32), .int x1, .int x2]) (rest := []) hx hb hml hown zw hB zM_X7_148 (zc_X1_record l D ca a I10 L10 H.size h) zdC_29 rfl rfl hl.1 rfl (Nat.le_of_ble_eq_true rfl) rfl rfl ⟨Nat.le_of_ble_eq_true rfl, Nat.le_of_ble_eq_true rfl⟩ dX7_carve_25 ⟨Nat.le_of_ble_eq_true rfl, Nat.le_of_ble_eq_true rfl⟩) (fun I25 L25 H locs h hB => ?_)
    refine lv_iload_n hx hb dX7_carve_28 rfl (lv_at hl 0 rfl) ?_
    exact zz_iret hx hb hr hlocks hB h dX7_carve_29
theorem zc_X7_carve (l : Launch) (D : va_G) (ca : Nat → ClassId) (a : Nat → Nat) (I : zz_I) (L : zz_L) (sz : Nat) {x1 : Int32} {x2 : Int32} {P : Int32 → zz_I → zz_L → Prop}  (h : zp_X7_carve x1 x2 P I L) : Met l yX7_carve [.code yX7_carve cX7_carve 4 (some .int)] ({ frames := 3, cells := 0, slots := 0, locals := 69 } : Room) (zz_Pre D ca zz_dC [.ref (a 0), .int x1, .int x2] a I L sz) (zz_Qi D ca zz_dC (zz_A ca zz_dC a I L sz) a P) 0 0 (zz_A ca zz_dC a I L sz) :=
  zz_start (by decide) (Nat.le_of_ble_eq_true rfl) (fun p e s m below meth c X hsz hA => zq_X7_carve X hA  h)
def zp_X7_count (x1 : Int32) (P : Int32 → Prop) (I : zz_I) (L : zz_L) : Prop := (x1 = (0 : Int32) → P (I 1 1)) ∧ (x1 = (1 : Int32) → P (I 14 6)) ∧ (x1 = (2 : Int32) → P (I 21 3)) ∧ (x1 = (3 : Int32) → zp_X6_countGaps 21 (fun r72 => P r72) I L) ∧ (x1 = (4 : Int32) → P (I 21 4)) ∧ (x1 = (5 : Int32) → P (I 29 3)) ∧ (x1 = (6 : Int32) → P (I 33 3)) ∧ (¬ x1 = (0 : Int32) → ¬ x1 = (1 : Int32) → ¬ x1 = (2 : Int32) → ¬ x1 = (3 : Int32) → ¬ x1 = (4 : Int32) → ¬ x1 = (5 : Int32) → ¬ x1 = (6 : Int32) → P (-2 : Int32))
set_option maxHeartbeats 4000000 in
set_option maxRecDepth 100000 in
theorem zq_X7_count {p : Program} {l : Launch} {e : Env} {s : State} {m : MethodId} {args : Array Value} {below : List Frame} {meth : Method} {c : Code} {D : va_G} {ca : Nat → ClassId} {A : Nat → Prop} {a : Nat → Nat}  {P : Int32 → Prop} {I : zz_I} {L : zz_L} {x1 : Int32} (X : zz_X p s m meth c cX7_count RX7 (some .int) 2) (hA : ∀ q, s.heap.size ≤ q → A q)   (h : zp_X7_count x1 P I L) : zz_Go p l e ({ frames := 1, cells := 0, slots := 0, locals := 22 } : Room) s m args below meth c 0 0 (MQ below (zz_Qi D ca zz_dC A a (fun r I9 L9 => P r ∧ I9 = I ∧ L9 = L)) args s 0 0 A) D ca zz_dC A 2 0 a [] [(0, .ref (a 0)), (1, .int x1)] I L := by
  obtain ⟨hx, hb, hml, hown, zw, hr, hlocks⟩ := id X
  intro H locs ls hB hl
  unfold zp_X7_count at h
  refine lv_iload_n hx hb dX7_count_0 rfl (lv_at hl 1 rfl) ?_
  by_cases q1_0 : x1 = (0 : Int32)
  · have h := h.1 q1_0
    refine lv_tableIn (tgt := 44) hx hb dX7_count_1 (by rw [q1_0] <;> decide) (by rw [q1_0] <;> decide) (by rw [q1_0] <;> rfl) (by decide) ?_
    refine lv_aload_n hx hb dX7_count_44 rfl (lv_at hl 0 rfl) ?_
    refine zz_getr (k' := 1) hx hb hown zw hB zF_X7_12 zdC_0 rfl rfl dX7_count_45 ?_
    refine zz_geti hx hb hown zw hB zF_X7_78 zdC_1 rfl dX7_count_48 ?_
    exact zz_iret hx hb hr hlocks hB ⟨h, rfl, rfl⟩ dX7_count_51
  by_cases q1_1 : x1 = (1 : Int32)
  · have h := h.2.1 q1_1
    refine lv_tableIn (tgt := 52) hx hb dX7_count_1 (by rw [q1_1] <;> decide) (by rw [q1_1] <;> decide) (by rw [q1_1] <;> rfl) (by decide) ?_
    refine lv_aload_n hx hb dX7_count_52 rfl (lv_at hl 0 rfl) ?_
    refine zz_getr (k' := 14) hx hb hown zw hB zF_X7_19 zdC_0 rfl rfl dX7_count_53 ?_
    refine zz_geti hx hb hown zw hB zF_X7_263 zdC_14 rfl dX7_count_56 ?_
    exact zz_iret hx hb hr hlocks hB ⟨h, rfl, rfl⟩ dX7_count_59
  by_cases q1_2 : x1 = (2 : Int32)
  · have h := h.2.2.1 q1_2
    refine lv_tableIn (tgt := 60) hx hb dX7_count_1 (by rw [q1_2] <;> decide) (by rw [q1_2] <;> decide) (by rw [q1_2] <;> rfl) (by decide) ?_
    refine lv_aload_n hx hb dX7_count_60 rfl (lv_at hl 0 rfl) ?_
    refine zz_getr (k' := 21) hx hb hown zw hB zF_X7_26 zdC_0 rfl rfl dX7_count_61 ?_
    refine zz_geti hx hb hown zw hB zF_X7_102 zdC_21 rfl dX7_count_64 ?_
    exact zz_iret hx hb hr hlocks hB ⟨h, rfl, rfl⟩ dX7_count_67
  by_cases q1_3 : x1 = (3 : Int32)
  · have h := h.2.2.2.1 q1_3
    refine lv_tableIn (tgt := 68) hx hb dX7_count_1 (by rw [q1_3] <;> decide) (by rw [q1_3] <;> decide) (by rw [q1_3] <;> rfl) (by decide) ?_
    refine lv_aload_n hx hb dX7_count_68 rfl (lv_at hl 0 rfl) ?_
    refine zz_getr (k' := 21) hx hb hown zw hB zF_X7_26 zdC_0 rfl rfl dX7_count_69 ?_
    refine zz_goip hB hA (zz_runV (As := []) (rest := []) hx hb hml hown zw hB zM_X7_266 (zc_X6_countGaps l D ca a I L H.size zz_isT_21 h) zdC_21 rfl rfl hl.1 rfl (Nat.le_of_ble_eq_true rfl) rfl rfl ⟨Nat.le_of_ble_eq_true rfl, Nat.le_of_ble_eq_true rfl⟩ dX7_count_72 ⟨Nat.le_of_ble_eq_true rfl, Nat.le_of_ble_eq_true rfl⟩) (fun r72 H locs h hB => ?_)
    exact zz_iret hx hb hr hlocks hB ⟨h, rfl, rfl⟩ dX7_count_75
  by_cases q1_4 : x1 = (4 : Int32)
  · have h := h.2.2.2.2.1 q1_4
    refine lv_tableIn (tgt := 76) hx hb dX7_count_1 (by rw [q1_4] <;> decide) (by rw [q1_4] <;> decide) (by rw [q1_4] <;> rfl) (by decide) ?_
    refine lv_aload_n hx hb dX7_count_76 rfl (lv_at hl 0 rfl) ?_
    refine zz_getr (k' := 21) hx hb hown zw hB zF_X7_26 zdC_0 rfl rfl dX7_count_77 ?_
    refine zz_geti hx hb hown zw hB zF_X7_125 zdC_21 rfl dX7_count_80 ?_
    exact zz_iret hx hb hr hlocks hB ⟨h, rfl, rfl⟩ dX7_count_83
  by_cases q1_5 : x1 = (5 : Int32)
  · have h := h.2.2.2.2.2.1 q1_5
    refine lv_tableIn (tgt := 84) hx hb dX7_count_1 (by rw [q1_5] <;> decide) (by rw [q1_5] <;> decide) (by rw [q1_5] <;> rfl) (by decide) ?_
    refine lv_aload_n hx hb dX7_count_84 rfl (lv_at hl 0 rfl) ?_
    refine zz_getr (k' := 29) hx hb hown zw hB zF_X7_36 zdC_0 rfl rfl dX7_count_85 ?_
    refine zz_geti hx hb hown zw hB zF_X7_163 zdC_29 rfl dX7_count_88 ?_
    exact zz_iret hx hb hr hlocks hB ⟨h, rfl, rfl⟩ dX7_count_91
  by_cases q1_6 : x1 = (6 : Int32)
  · have h := h.2.2.2.2.2.2.1 q1_6
    refine lv_tableIn (tgt := 92) hx hb dX7_count_1 (by rw [q1_6] <;> decide) (by rw [q1_6] <;> decide) (by rw [q1_6] <;> rfl) (by decide) ?_
    refine lv_aload_n hx hb dX7_count_92 rfl (lv_at hl 0 rfl) ?_
    refine zz_getr (k' := 33) hx hb hown zw hB zF_X7_43 zdC_0 rfl rfl dX7_count_93 ?_
    refine zz_geti hx hb hown zw hB zF_X7_220 zdC_33 rfl dX7_count_96 ?_
    exact zz_iret hx hb hr hlocks hB ⟨h, rfl, rfl⟩ dX7_count_99
  have h := h.2.2.2.2.2.2.2 q1_0 q1_1 q1_2 q1_3 q1_4 q1_5 q1_6
  have hts1 : x1.toInt < 0 ∨ 6 < x1.toInt := by
    have z0 := zz_ne_int q1_0
    have z1 := zz_ne_int q1_1
    have z2 := zz_ne_int q1_2
    have z3 := zz_ne_int q1_3
    have z4 := zz_ne_int q1_4
    have z5 := zz_ne_int q1_5
    have z6 := zz_ne_int q1_6
    have e0 : ((0 : Int32)).toInt = 0 ∧ ((1 : Int32)).toInt = 1 ∧ ((2 : Int32)).toInt = 2 ∧ ((3 : Int32)).toInt = 3 ∧ ((4 : Int32)).toInt = 4 ∧ ((5 : Int32)).toInt = 5 ∧ ((6 : Int32)).toInt = 6 := by decide
    omega
  refine lv_tableOut (tgt := 100) hx hb dX7_count_1 hts1 (by decide) ?_
  refine lv_bipush (v := (-2 : Int32)) hx hb dX7_count_100 (by decide) ?_
  exact zz_iret hx hb hr hlocks hB ⟨h, rfl, rfl⟩ dX7_count_102
theorem zc_X7_count (l : Launch) (D : va_G) (ca : Nat → ClassId) (a : Nat → Nat) (I : zz_I) (L : zz_L) (sz : Nat) {x1 : Int32} {P : Int32 → Prop}  (h : zp_X7_count x1 P I L) : Met l yX7_count [.code yX7_count cX7_count 2 (some .int)] ({ frames := 1, cells := 0, slots := 0, locals := 22 } : Room) (zz_Pre D ca zz_dC [.ref (a 0), .int x1] a I L sz) (zz_Qi D ca zz_dC (zz_A ca zz_dC a I L sz) a (fun r I9 L9 => P r ∧ I9 = I ∧ L9 = L)) 0 0 (zz_A ca zz_dC a I L sz) :=
  zz_start (by decide) (Nat.le_of_ble_eq_true rfl) (fun p e s m below meth c X hsz hA => zq_X7_count X hA  h)
def zp_X7_fault  (P : Int32 → zz_I → zz_L → Prop) (I : zz_I) (L : zz_L) : Prop := zp_X4_parse  (fun r4 I4 L4 => P r4 I4 L4) I L
set_option maxHeartbeats 4000000 in
set_option maxRecDepth 100000 in
theorem zq_X7_fault {p : Program} {l : Launch} {e : Env} {s : State} {m : MethodId} {args : Array Value} {below : List Frame} {meth : Method} {c : Code} {D : va_G} {ca : Nat → ClassId} {A : Nat → Prop} {a : Nat → Nat}  {P : Int32 → zz_I → zz_L → Prop} {I : zz_I} {L : zz_L}  (X : zz_X p s m meth c cX7_fault RX7 (some .int) 1) (hA : ∀ q, s.heap.size ≤ q → A q)   (h : zp_X7_fault  P I L) : zz_Go p l e ({ frames := 6, cells := 0, slots := 0, locals := 131 } : Room) s m args below meth c 0 0 (MQ below (zz_Qi D ca zz_dC A a P) args s 0 0 A) D ca zz_dC A 1 0 a [] [(0, .ref (a 0))] I L := by
  obtain ⟨hx, hb, hml, hown, zw, hr, hlocks⟩ := id X
  intro H locs ls hB hl
  unfold zp_X7_fault at h
  refine lv_aload_n hx hb dX7_fault_0 rfl (lv_at hl 0 rfl) ?_
  refine zz_getr (k' := 1) hx hb hown zw hB zF_X7_12 zdC_0 rfl rfl dX7_fault_1 ?_
  refine zz_goi hB hA (zz_runV (As := []) (rest := []) hx hb hml hown zw hB zM_X7_86 (zc_X4_parse l D ca a I L H.size h) zdC_1 rfl rfl hl.1 rfl (Nat.le_of_ble_eq_true rfl) rfl rfl ⟨Nat.le_of_ble_eq_true rfl, Nat.le_of_ble_eq_true rfl⟩ dX7_fault_4 ⟨Nat.le_of_ble_eq_true rfl, Nat.le_of_ble_eq_true rfl⟩) (fun r4 I4 L4 H locs h hB => ?_)
  exact zz_iret hx hb hr hlocks hB h dX7_fault_7
theorem zc_X7_fault (l : Launch) (D : va_G) (ca : Nat → ClassId) (a : Nat → Nat) (I : zz_I) (L : zz_L) (sz : Nat)  {P : Int32 → zz_I → zz_L → Prop}  (h : zp_X7_fault  P I L) : Met l yX7_fault [.code yX7_fault cX7_fault 1 (some .int)] ({ frames := 6, cells := 0, slots := 0, locals := 131 } : Room) (zz_Pre D ca zz_dC [.ref (a 0)] a I L sz) (zz_Qi D ca zz_dC (zz_A ca zz_dC a I L sz) a P) 0 0 (zz_A ca zz_dC a I L sz) :=
  zz_start (by decide) (Nat.le_of_ble_eq_true rfl) (fun p e s m below meth c X hsz hA => zq_X7_fault X hA  h)
def zp_X7_judge_83b (K83 : Int64 → Int64 → Int32 → zz_I → zz_L → Prop) (P : Int32 → zz_I → zz_L → Prop) (x1 : Int32) (x4 : Int64) (x6 : Int64) (x8 : Int32) (I : zz_I) (L : zz_L) : Prop := (x1 ≤ x8 → P (-9 : Int32) I L) ∧ (¬ x1 ≤ x8 → (x4 ≤ (0 : Int64) → P (-9 : Int32) I L) ∧ (¬ x4 ≤ (0 : Int64) → ¬ x4 = 0 ∧ (zp_X7_accepts ((x6 / x4).toInt32) (fun r103 I103 L103 => (¬ r103 = 0 → ¬ x4 = 0 ∧ (∀ v117 : Int64, v117 = x6 - x6 / x4 * x4 → (∀ v125 : Int64, v125 = x4 / (100000 : Int64) → (∀ v127 : Int32, v127 = x8 + (1 : Int32) → (K83 v125 v117 v127 I103 L103))))) ∧ (r103 = 0 → P x8 I103 L103)) I L)))
set_option maxHeartbeats 4000000 in
set_option maxRecDepth 100000 in
theorem zq_X7_judge_83b {p : Program} {l : Launch} {e : Env} {s : State} {m : MethodId} {args : Array Value} {below : List Frame} {meth : Method} {c : Code} {D : va_G} {ca : Nat → ClassId} {A : Nat → Prop} {a : Nat → Nat} {K83 : Int64 → Int64 → Int32 → zz_I → zz_L → Prop} {P : Int32 → zz_I → zz_L → Prop} {I : zz_I} {L : zz_L} {x1 : Int32} {x4 : Int64} {x6 : Int64} {x8 : Int32} (X : zz_X p s m meth c cX7_judge RX7 (some .int) 9) (hA : ∀ q, s.heap.size ≤ q → A q)  (hK83 : ∀ (y4 : Int64) (y6 : Int64) (y8 : Int32) (I8 : zz_I) (L8 : zz_L), K83 y4 y6 y8 I8 L8 → zz_Go p l e ({ frames := 6, cells := 0, slots := 0, locals := 151 } : Room) s m args below meth c 0 0 (MQ below (zz_Qi D ca zz_dC A a P) args s 0 0 A) D ca zz_dC A 9 83 a [] [(0, .ref (a 0)), (1, .int x1), (4, .long y4), (6, .long y6), (8, .int y8)] I8 L8) (h : zp_X7_judge_83b K83 P x1 x4 x6 x8 I L) : zz_Go p l e ({ frames := 6, cells := 0, slots := 0, locals := 151 } : Room) s m args below meth c 0 0 (MQ below (zz_Qi D ca zz_dC A a P) args s 0 0 A) D ca zz_dC A 9 83 a [] [(0, .ref (a 0)), (1, .int x1), (4, .long x4), (6, .long x6), (8, .int x8)] I L := by
  obtain ⟨hx, hb, hml, hown, zw, hr, hlocks⟩ := id X
  intro H locs ls hB hl
  unfold zp_X7_judge_83b at h
  refine lv_iload hx hb dX7_judge_83 (lv_at hl 4 rfl) ?_
  refine lv_iload_n hx hb dX7_judge_85 rfl (lv_at hl 1 rfl) ?_
  refine lv_icmp_ge (tgt := 133) hx hb dX7_judge_86 (by decide) (fun c86 => ?_) (fun c86 => ?_)
  · have h := h.1 c86
    refine lv_bipush (v := (-9 : Int32)) hx hb dX7_judge_133 (by decide) ?_
    exact zz_iret hx hb hr hlocks hB h dX7_judge_135
  · have h := h.2 c86
    refine lv_lload hx hb dX7_judge_89 (lv_at hl 2 rfl) ?_
    refine lv_lconst (v := (0 : Int64)) hx hb dX7_judge_91 (by decide) ?_
    refine zz_l_le (tgt := 133) hx hb dX7_judge_92 dX7_judge_93 (by decide) (fun c92 => ?_) (fun c92 => ?_)
    · have h := h.1 c92
      refine lv_bipush (v := (-9 : Int32)) hx hb dX7_judge_133 (by decide) ?_
      exact zz_iret hx hb hr hlocks hB h dX7_judge_135
    · have h := h.2 c92
      refine lv_aload_n hx hb dX7_judge_96 rfl (lv_at hl 0 rfl) ?_
      refine lv_lload hx hb dX7_judge_97 (lv_at hl 3 rfl) ?_
      refine lv_lload hx hb dX7_judge_99 (lv_at hl 2 rfl) ?_
      obtain ⟨h101, h⟩ := h
      refine lv_ldiv hx hb dX7_judge_101 h101 ?_
      refine lv_l2i (v := (x6 / x4).toInt32) hx hb dX7_judge_102 rfl ?_
      refine zz_goi hB hA (zz_runV (As := [.int ((x6 / x4).toInt32)]) (rest := []) hx hb hml hown zw hB zM_X7_217 (zc_X7_accepts l D ca a I L H.size h) zdC_0 rfl rfl hl.1 rfl (Nat.le_of_ble_eq_true rfl) rfl rfl ⟨Nat.le_of_ble_eq_true rfl, Nat.le_of_ble_eq_true rfl⟩ dX7_judge_103 ⟨Nat.le_of_ble_eq_true rfl, Nat.le_of_ble_eq_true rfl⟩) (fun r103 I103 L103 H locs h hB => ?_)
      refine lv_if_ne (tgt := 112) hx hb dX7_judge_106 (by decide) (fun c106 => ?_) (fun c106 => ?_)
      · have h := h.1 c106
        refine lv_lload hx hb dX7_judge_112 (lv_at hl 3 rfl) ?_
        refine lv_lload hx hb dX7_judge_114 (lv_at hl 2 rfl) ?_
        obtain ⟨h116, h⟩ := h
        refine lv_lrem hx hb dX7_judge_116 h116 ?_
        refine lv_topl (fun v117 ev117 => ?_)
        have h := h v117 ev117
        refine lv_lstore (lv' := [(6, .long v117), (0, .ref (a 0)), (1, .int x1), (4, .long x4), (8, .int x8)]) hx hb dX7_judge_117 hl (by decide) rfl (fun ls hl => ?_)
        refine lv_lload hx hb dX7_judge_119 (lv_at hl 3 rfl) ?_
        refine lv_ldc2 (v := (100000 : Int64)) hx hb hown (zz_W_use zw zk_X7_215 rfl) dX7_judge_121 ?_
        refine lv_ldiv hx hb dX7_judge_124 (by decide) ?_
        refine lv_topl (fun v125 ev125 => ?_)
        have h := h v125 ev125
        refine lv_lstore (lv' := [(4, .long v125), (6, .long v117), (0, .ref (a 0)), (1, .int x1), (8, .int x8)]) hx hb dX7_judge_125 hl (by decide) rfl (fun ls hl => ?_)
        obtain ⟨v127, ev127⟩ : ∃ z : Int32, z = x8 + (1 : Int32) := ⟨_, rfl⟩
        have h := h v127 ev127
        refine lv_iinc (v := v127) (lv' := [(8, .int v127), (4, .long v125), (6, .long v117), (0, .ref (a 0)), (1, .int x1)]) hx hb dX7_judge_127 hl (k := 4) rfl (by rw [ev127]; rfl) (by decide) rfl (fun ls hl => ?_)
        refine lv_goto (tgt := 83) hx hb dX7_judge_130 (by decide) ?_
        exact hK83 _ _ _ _ _ h H locs ls hB (lv_sub hl [3, 4, 1, 2, 0] rfl)
      · have h := h.2 c106
        refine lv_iload hx hb dX7_judge_109 (lv_at hl 4 rfl) ?_
        exact zz_iret hx hb hr hlocks hB h dX7_judge_111
def zp_X7_judge_83  (P : Int32 → zz_I → zz_L → Prop) (x1 : Int32) (x4 : Int64) (x6 : Int64) (x8 : Int32) (I : zz_I) (L : zz_L) : Prop := ∃ (Inv : Int64 → Int64 → Int32 → zz_I → zz_L → Prop) (μ : Int64 → Int64 → Int32 → zz_I → zz_L → Nat), Inv x4 x6 x8 I L ∧ ∀ (y4 : Int64) (y6 : Int64) (y8 : Int32) (I8 : zz_I) (L8 : zz_L), Inv y4 y6 y8 I8 L8 → zp_X7_judge_83b  (fun z4 z6 z8 I7 L7 => Inv z4 z6 z8 I7 L7 ∧ μ z4 z6 z8 I7 L7 < μ y4 y6 y8 I8 L8) P x1 y4 y6 y8 I8 L8
set_option maxHeartbeats 4000000 in
set_option maxRecDepth 100000 in
theorem zq_X7_judge_83 {p : Program} {l : Launch} {e : Env} {s : State} {m : MethodId} {args : Array Value} {below : List Frame} {meth : Method} {c : Code} {D : va_G} {ca : Nat → ClassId} {A : Nat → Prop} {a : Nat → Nat}  {P : Int32 → zz_I → zz_L → Prop} {I : zz_I} {L : zz_L} {x1 : Int32} {x4 : Int64} {x6 : Int64} {x8 : Int32} (X : zz_X p s m meth c cX7_judge RX7 (some .int) 9) (hA : ∀ q, s.heap.size ≤ q → A q)   (h : zp_X7_judge_83  P x1 x4 x6 x8 I L) : zz_Go p l e ({ frames := 6, cells := 0, slots := 0, locals := 151 } : Room) s m args below meth c 0 0 (MQ below (zz_Qi D ca zz_dC A a P) args s 0 0 A) D ca zz_dC A 9 83 a [] [(0, .ref (a 0)), (1, .int x1), (4, .long x4), (6, .long x6), (8, .int x8)] I L := by
  unfold zp_X7_judge_83 at h
  obtain ⟨Inv, μ, hv0, hs⟩ := h
  have key : ∀ (n9 : Nat) (y4 : Int64) (y6 : Int64) (y8 : Int32) (I8 : zz_I) (L8 : zz_L), μ y4 y6 y8 I8 L8 < n9 → Inv y4 y6 y8 I8 L8 → zz_Go p l e ({ frames := 6, cells := 0, slots := 0, locals := 151 } : Room) s m args below meth c 0 0 (MQ below (zz_Qi D ca zz_dC A a P) args s 0 0 A) D ca zz_dC A 9 83 a [] [(0, .ref (a 0)), (1, .int x1), (4, .long y4), (6, .long y6), (8, .int y8)] I8 L8 := by
    intro n9
    induction n9 with
    | zero => intro y4 y6 y8 I8 L8 hn; exact absurd hn (Nat.not_lt_zero _)
    | succ n9 ih =>
      intro y4 y6 y8 I8 L8 hn hi
      exact zq_X7_judge_83b (K83 := (fun z4 z6 z8 I7 L7 => Inv z4 z6 z8 I7 L7 ∧ μ z4 z6 z8 I7 L7 < μ y4 y6 y8 I8 L8)) X hA   (fun z4 z6 z8 I7 L7 hz => ih z4 z6 z8 I7 L7 (Nat.lt_of_lt_of_le hz.2 (Nat.le_of_lt_succ hn)) hz.1) (hs y4 y6 y8 I8 L8 hi)
  exact key _ x4 x6 x8 I L (Nat.lt_succ_self _) hv0
def zp_X7_judge_25b (K25 : Int64 → Int32 → Prop) (P : Int32 → zz_I → zz_L → Prop) (x1 : Int32) (x2 : Int64) (x4 : Int64) (x6 : Int32) (I : zz_I) (L : zz_L) : Prop := (x1 ≤ x6 → (x4 ≤ (0 : Int64) → P (-2 : Int32) I L) ∧ (¬ x4 ≤ (0 : Int64) → ¬ x4 = 0 ∧ (((x2 / x4) < (100000 : Int64) → zp_X6_copyFrom 25 21 (fun I74 L74 => zp_X7_judge_83 P x1 x4 x2 (0 : Int32) I74 L74) I L) ∧ (¬ (x2 / x4) < (100000 : Int64) → P (-2 : Int32) I L)))) ∧ (¬ x1 ≤ x6 → ∀ v37 : Int64, v37 = x4 * (100000 : Int64) → (∀ v39 : Int32, v39 = x6 + (1 : Int32) → (K25 v37 v39)))
set_option maxHeartbeats 4000000 in
set_option maxRecDepth 100000 in
theorem zq_X7_judge_25b {p : Program} {l : Launch} {e : Env} {s : State} {m : MethodId} {args : Array Value} {below : List Frame} {meth : Method} {c : Code} {D : va_G} {ca : Nat → ClassId} {A : Nat → Prop} {a : Nat → Nat} {K25 : Int64 → Int32 → Prop} {P : Int32 → zz_I → zz_L → Prop} {I : zz_I} {L : zz_L} {x1 : Int32} {x2 : Int64} {x4 : Int64} {x6 : Int32} (X : zz_X p s m meth c cX7_judge RX7 (some .int) 9) (hA : ∀ q, s.heap.size ≤ q → A q)  (hK25 : ∀ (y4 : Int64) (y6 : Int32), K25 y4 y6 → zz_Go p l e ({ frames := 6, cells := 0, slots := 0, locals := 151 } : Room) s m args below meth c 0 0 (MQ below (zz_Qi D ca zz_dC A a P) args s 0 0 A) D ca zz_dC A 9 25 a [] [(0, .ref (a 0)), (1, .int x1), (2, .long x2), (4, .long y4), (6, .int y6)] I L) (h : zp_X7_judge_25b K25 P x1 x2 x4 x6 I L) : zz_Go p l e ({ frames := 6, cells := 0, slots := 0, locals := 151 } : Room) s m args below meth c 0 0 (MQ below (zz_Qi D ca zz_dC A a P) args s 0 0 A) D ca zz_dC A 9 25 a [] [(0, .ref (a 0)), (1, .int x1), (2, .long x2), (4, .long x4), (6, .int x6)] I L := by
  obtain ⟨hx, hb, hml, hown, zw, hr, hlocks⟩ := id X
  intro H locs ls hB hl
  unfold zp_X7_judge_25b at h
  refine lv_iload hx hb dX7_judge_25 (lv_at hl 4 rfl) ?_
  refine lv_iload_n hx hb dX7_judge_27 rfl (lv_at hl 1 rfl) ?_
  refine lv_icmp_ge (tgt := 45) hx hb dX7_judge_28 (by decide) (fun c28 => ?_) (fun c28 => ?_)
  · have h := h.1 c28
    refine lv_lload hx hb dX7_judge_45 (lv_at hl 3 rfl) ?_
    refine lv_lconst (v := (0 : Int64)) hx hb dX7_judge_47 (by decide) ?_
    refine zz_l_le (tgt := 63) hx hb dX7_judge_48 dX7_judge_49 (by decide) (fun c48 => ?_) (fun c48 => ?_)
    · have h := h.1 c48
      refine lv_bipush (v := (-2 : Int32)) hx hb dX7_judge_63 (by decide) ?_
      exact zz_iret hx hb hr hlocks hB h dX7_judge_65
    · have h := h.2 c48
      refine lv_lload_n hx hb dX7_judge_52 rfl (lv_at hl 2 rfl) ?_
      refine lv_lload hx hb dX7_judge_53 (lv_at hl 3 rfl) ?_
      obtain ⟨h55, h⟩ := h
      refine lv_ldiv hx hb dX7_judge_55 h55 ?_
      refine lv_ldc2 (v := (100000 : Int64)) hx hb hown (zz_W_use zw zk_X7_215 rfl) dX7_judge_56 ?_
      refine zz_l_lt (tgt := 66) hx hb dX7_judge_59 dX7_judge_60 (by decide) (fun c59 => ?_) (fun c59 => ?_)
      · have h := h.1 c59
        refine lv_aload_n hx hb dX7_judge_66 rfl (lv_at hl 0 rfl) ?_
        refine zz_getr (k' := 25) hx hb hown zw hB zF_X7_30 zdC_0 rfl rfl dX7_judge_67 ?_
        refine lv_aload_n hx hb dX7_judge_70 rfl (lv_at hl 0 rfl) ?_
        refine zz_getr (k' := 21) hx hb hown zw hB zF_X7_26 zdC_0 rfl rfl dX7_judge_71 ?_
        refine zz_gov hB hA (zz_runV (As := [.ref (a 21)]) (rest := []) hx hb hml hown zw hB zM_X7_96 (zc_X6_copyFrom l D ca a I L H.size zz_isT_25 zz_isT_21 h) zdC_25 rfl rfl hl.1 rfl (Nat.le_of_ble_eq_true rfl) rfl rfl ⟨Nat.le_of_ble_eq_true rfl, Nat.le_of_ble_eq_true rfl⟩ dX7_judge_74 ⟨Nat.le_of_ble_eq_true rfl, Nat.le_of_ble_eq_true rfl⟩) (fun I74 L74 H locs h hB => ?_)
        refine lv_lload_n hx hb dX7_judge_77 rfl (lv_at hl 2 rfl) ?_
        refine lv_lstore (lv' := [(6, .long x2), (0, .ref (a 0)), (1, .int x1), (2, .long x2), (4, .long x4)]) hx hb dX7_judge_78 hl (by decide) rfl (fun ls hl => ?_)
        refine lv_iconst (v := (0 : Int32)) hx hb dX7_judge_80 (by decide) ?_
        refine lv_istore (lv' := [(8, .int (0 : Int32)), (6, .long x2), (0, .ref (a 0)), (1, .int x1), (2, .long x2), (4, .long x4)]) hx hb dX7_judge_81 hl (by decide) rfl (fun ls hl => ?_)
        exact zq_X7_judge_83 X hA  h H locs ls hB (lv_sub hl [2, 3, 5, 1, 0] rfl)
      · have h := h.2 c59
        refine lv_bipush (v := (-2 : Int32)) hx hb dX7_judge_63 (by decide) ?_
        exact zz_iret hx hb hr hlocks hB h dX7_judge_65
  · have h := h.2 c28
    refine lv_lload hx hb dX7_judge_31 (lv_at hl 3 rfl) ?_
    refine lv_ldc2 (v := (100000 : Int64)) hx hb hown (zz_W_use zw zk_X7_215 rfl) dX7_judge_33 ?_
    refine lv_lmul hx hb dX7_judge_36 ?_
    refine lv_topl (fun v37 ev37 => ?_)
    have h := h v37 ev37
    refine lv_lstore (lv' := [(4, .long v37), (0, .ref (a 0)), (1, .int x1), (2, .long x2), (6, .int x6)]) hx hb dX7_judge_37 hl (by decide) rfl (fun ls hl => ?_)
    obtain ⟨v39, ev39⟩ : ∃ z : Int32, z = x6 + (1 : Int32) := ⟨_, rfl⟩
    have h := h v39 ev39
    refine lv_iinc (v := v39) (lv' := [(6, .int v39), (4, .long v37), (0, .ref (a 0)), (1, .int x1), (2, .long x2)]) hx hb dX7_judge_39 hl (k := 4) rfl (by rw [ev39]; rfl) (by decide) rfl (fun ls hl => ?_)
    refine lv_goto (tgt := 25) hx hb dX7_judge_42 (by decide) ?_
    exact hK25 _ _ h H locs ls hB (lv_sub hl [2, 3, 4, 1, 0] rfl)
def zp_X7_judge_25  (P : Int32 → zz_I → zz_L → Prop) (x1 : Int32) (x2 : Int64) (x4 : Int64) (x6 : Int32) (I : zz_I) (L : zz_L) : Prop := ∃ (Inv : Int64 → Int32 → Prop) (μ : Int64 → Int32 → Nat), Inv x4 x6 ∧ ∀ (y4 : Int64) (y6 : Int32), Inv y4 y6 → zp_X7_judge_25b  (fun z4 z6 => Inv z4 z6 ∧ μ z4 z6 < μ y4 y6) P x1 x2 y4 y6 I L
set_option maxHeartbeats 4000000 in
set_option maxRecDepth 100000 in
theorem zq_X7_judge_25 {p : Program} {l : Launch} {e : Env} {s : State} {m : MethodId} {args : Array Value} {below : List Frame} {meth : Method} {c : Code} {D : va_G} {ca : Nat → ClassId} {A : Nat → Prop} {a : Nat → Nat}  {P : Int32 → zz_I → zz_L → Prop} {I : zz_I} {L : zz_L} {x1 : Int32} {x2 : Int64} {x4 : Int64} {x6 : Int32} (X : zz_X p s m meth c cX7_judge RX7 (some .int) 9) (hA : ∀ q, s.heap.size ≤ q → A q)   (h : zp_X7_judge_25  P x1 x2 x4 x6 I L) : zz_Go p l e ({ frames := 6, cells := 0, slots := 0, locals := 151 } : Room) s m args below meth c 0 0 (MQ below (zz_Qi D ca zz_dC A a P) args s 0 0 A) D ca zz_dC A 9 25 a [] [(0, .ref (a 0)), (1, .int x1), (2, .long x2), (4, .long x4), (6, .int x6)] I L := by
  unfold zp_X7_judge_25 at h
  obtain ⟨Inv, μ, hv0, hs⟩ := h
  have key : ∀ (n9 : Nat) (y4 : Int64) (y6 : Int32), μ y4 y6 < n9 → Inv y4 y6 → zz_Go p l e ({ frames := 6, cells := 0, slots := 0, locals := 151 } : Room) s m args below meth c 0 0 (MQ below (zz_Qi D ca zz_dC A a P) args s 0 0 A) D ca zz_dC A 9 25 a [] [(0, .ref (a 0)), (1, .int x1), (2, .long x2), (4, .long y4), (6, .int y6)] I L := by
    intro n9
    induction n9 with
    | zero => intro y4 y6 hn; exact absurd hn (Nat.not_lt_zero _)
    | succ n9 ih =>
      intro y4 y6 hn hi
      exact zq_X7_judge_25b (K25 := (fun z4 z6 => Inv z4 z6 ∧ μ z4 z6 < μ y4 y6)) X hA   (fun z4 z6 hz => ih z4 z6 (Nat.lt_of_lt_of_le hz.2 (Nat.le_of_lt_succ hn)) hz.1) (hs y4 y6 hi)
  exact key _ x4 x6 (Nat.lt_succ_self _) hv0
def zp_X7_judge (x1 : Int32) (x2 : Int64) (P : Int32 → zz_I → zz_L → Prop) (I : zz_I) (L : zz_L) : Prop := (x1 < (1 : Int32) → P (-2 : Int32) I L) ∧ (¬ x1 < (1 : Int32) → ((3 : Int32) < x1 → P (-2 : Int32) I L) ∧ (¬ (3 : Int32) < x1 → ((0 : Int64) ≤ x2 → zp_X7_judge_25 P x1 x2 (1 : Int64) (1 : Int32) I L) ∧ (¬ (0 : Int64) ≤ x2 → P (-2 : Int32) I L)))
set_option maxHeartbeats 4000000 in
set_option maxRecDepth 100000 in
theorem zq_X7_judge {p : Program} {l : Launch} {e : Env} {s : State} {m : MethodId} {args : Array Value} {below : List Frame} {meth : Method} {c : Code} {D : va_G} {ca : Nat → ClassId} {A : Nat → Prop} {a : Nat → Nat}  {P : Int32 → zz_I → zz_L → Prop} {I : zz_I} {L : zz_L} {x1 : Int32} {x2 : Int64} (X : zz_X p s m meth c cX7_judge RX7 (some .int) 9) (hA : ∀ q, s.heap.size ≤ q → A q)   (h : zp_X7_judge x1 x2 P I L) : zz_Go p l e ({ frames := 6, cells := 0, slots := 0, locals := 151 } : Room) s m args below meth c 0 0 (MQ below (zz_Qi D ca zz_dC A a P) args s 0 0 A) D ca zz_dC A 9 0 a [] [(0, .ref (a 0)), (1, .int x1), (2, .long x2)] I L := by
  obtain ⟨hx, hb, hml, hown, zw, hr, hlocks⟩ := id X
  intro H locs ls hB hl
  unfold zp_X7_judge at h
  refine lv_iload_n hx hb dX7_judge_0 rfl (lv_at hl 1 rfl) ?_
  refine lv_iconst (v := (1 : Int32)) hx hb dX7_judge_1 (by decide) ?_
  refine lv_icmp_lt (tgt := 16) hx hb dX7_judge_2 (by decide) (fun c2 => ?_) (fun c2 => ?_)
  · have h := h.1 c2
    refine lv_bipush (v := (-2 : Int32)) hx hb dX7_judge_16 (by decide) ?_
    exact zz_iret hx hb hr hlocks hB h dX7_judge_18
  · have h := h.2 c2
    refine lv_iload_n hx hb dX7_judge_5 rfl (lv_at hl 1 rfl) ?_
    refine lv_iconst (v := (3 : Int32)) hx hb dX7_judge_6 (by decide) ?_
    refine lv_icmp_gt (tgt := 16) hx hb dX7_judge_7 (by decide) (fun c7 => ?_) (fun c7 => ?_)
    · have h := h.1 c7
      refine lv_bipush (v := (-2 : Int32)) hx hb dX7_judge_16 (by decide) ?_
      exact zz_iret hx hb hr hlocks hB h dX7_judge_18
    · have h := h.2 c7
      refine lv_lload_n hx hb dX7_judge_10 rfl (lv_at hl 2 rfl) ?_
      refine lv_lconst (v := (0 : Int64)) hx hb dX7_judge_11 (by decide) ?_
      refine zz_l_ge (tgt := 19) hx hb dX7_judge_12 dX7_judge_13 (by decide) (fun c12 => ?_) (fun c12 => ?_)
      · have h := h.1 c12
        refine lv_lconst (v := (1 : Int64)) hx hb dX7_judge_19 (by decide) ?_
        refine lv_lstore (lv' := [(4, .long (1 : Int64)), (0, .ref (a 0)), (1, .int x1), (2, .long x2)]) hx hb dX7_judge_20 hl (by decide) rfl (fun ls hl => ?_)
        refine lv_iconst (v := (1 : Int32)) hx hb dX7_judge_22 (by decide) ?_
        refine lv_istore (lv' := [(6, .int (1 : Int32)), (4, .long (1 : Int64)), (0, .ref (a 0)), (1, .int x1), (2, .long x2)]) hx hb dX7_judge_23 hl (by decide) rfl (fun ls hl => ?_)
        exact zq_X7_judge_25 X hA  h H locs ls hB (lv_sub hl [2, 3, 4, 1, 0] rfl)
      · have h := h.2 c12
        refine lv_bipush (v := (-2 : Int32)) hx hb dX7_judge_16 (by decide) ?_
        exact zz_iret hx hb hr hlocks hB h dX7_judge_18
theorem zc_X7_judge (l : Launch) (D : va_G) (ca : Nat → ClassId) (a : Nat → Nat) (I : zz_I) (L : zz_L) (sz : Nat) {x1 : Int32} {x2 : Int64} {P : Int32 → zz_I → zz_L → Prop}  (h : zp_X7_judge x1 x2 P I L) : Met l yX7_judge [.code yX7_judge cX7_judge 9 (some .int)] ({ frames := 6, cells := 0, slots := 0, locals := 151 } : Room) (zz_Pre D ca zz_dC [.ref (a 0), .int x1, .long x2] a I L sz) (zz_Qi D ca zz_dC (zz_A ca zz_dC a I L sz) a P) 0 0 (zz_A ca zz_dC a I L sz) :=
  zz_start (by decide) (Nat.le_of_ble_eq_true rfl) (fun p e s m below meth c X hsz hA => zq_X7_judge X hA  h)
def zp_X7_keep (x1 : Int32) (P : Int32 → zz_I → zz_L → Prop) (I : zz_I) (L : zz_L) : Prop := (x1 < 0 → P (-1 : Int32) I L) ∧ (¬ x1 < 0 → (x1 < (2 : Int32) → (¬ x1 = 0 → zp_X6_copyFrom 52 21 (fun I42 L42 => ∀ I47 : zz_I, I47 = zz_up I42 0 11 (1 : Int32) → (P (I47 14 6) I47 L42)) I L) ∧ (x1 = 0 → zp_X6_copyFrom 48 21 (fun I23 L23 => ∀ I28 : zz_I, I28 = zz_up I23 0 10 (1 : Int32) → (P (I28 14 6) I28 L23)) I L)) ∧ (¬ x1 < (2 : Int32) → P (-1 : Int32) I L))
set_option maxHeartbeats 4000000 in
set_option maxRecDepth 100000 in
theorem zq_X7_keep {p : Program} {l : Launch} {e : Env} {s : State} {m : MethodId} {args : Array Value} {below : List Frame} {meth : Method} {c : Code} {D : va_G} {ca : Nat → ClassId} {A : Nat → Prop} {a : Nat → Nat}  {P : Int32 → zz_I → zz_L → Prop} {I : zz_I} {L : zz_L} {x1 : Int32} (X : zz_X p s m meth c cX7_keep RX7 (some .int) 2) (hA : ∀ q, s.heap.size ≤ q → A q)   (h : zp_X7_keep x1 P I L) : zz_Go p l e ({ frames := 2, cells := 0, slots := 0, locals := 61 } : Room) s m args below meth c 0 0 (MQ below (zz_Qi D ca zz_dC A a P) args s 0 0 A) D ca zz_dC A 2 0 a [] [(0, .ref (a 0)), (1, .int x1)] I L := by
  obtain ⟨hx, hb, hml, hown, zw, hr, hlocks⟩ := id X
  intro H locs ls hB hl
  unfold zp_X7_keep at h
  refine lv_iload_n hx hb dX7_keep_0 rfl (lv_at hl 1 rfl) ?_
  refine lv_if_lt (tgt := 9) hx hb dX7_keep_1 (by decide) (fun c1 => ?_) (fun c1 => ?_)
  · have h := h.1 c1
    refine lv_iconst (v := (-1 : Int32)) hx hb dX7_keep_9 (by decide) ?_
    exact zz_iret hx hb hr hlocks hB h dX7_keep_10
  · have h := h.2 c1
    refine lv_iload_n hx hb dX7_keep_4 rfl (lv_at hl 1 rfl) ?_
    refine lv_iconst (v := (2 : Int32)) hx hb dX7_keep_5 (by decide) ?_
    refine lv_icmp_lt (tgt := 11) hx hb dX7_keep_6 (by decide) (fun c6 => ?_) (fun c6 => ?_)
    · have h := h.1 c6
      refine lv_iload_n hx hb dX7_keep_11 rfl (lv_at hl 1 rfl) ?_
      refine lv_if_ne (tgt := 34) hx hb dX7_keep_12 (by decide) (fun c12 => ?_) (fun c12 => ?_)
      · have h := h.1 c12
        refine lv_aload_n hx hb dX7_keep_34 rfl (lv_at hl 0 rfl) ?_
        refine zz_getr (k' := 52) hx hb hown zw hB zF_X7_64 zdC_0 rfl rfl dX7_keep_35 ?_
        refine lv_aload_n hx hb dX7_keep_38 rfl (lv_at hl 0 rfl) ?_
        refine zz_getr (k' := 21) hx hb hown zw hB zF_X7_26 zdC_0 rfl rfl dX7_keep_39 ?_
        refine zz_gov hB hA (zz_runV (As := [.ref (a 21)]) (rest := []) hx hb hml hown zw hB zM_X7_96 (zc_X6_copyFrom l D ca a I L H.size zz_isT_52 zz_isT_21 h) zdC_52 rfl rfl hl.1 rfl (Nat.le_of_ble_eq_true rfl) rfl rfl ⟨Nat.le_of_ble_eq_true rfl, Nat.le_of_ble_eq_true rfl⟩ dX7_keep_42 ⟨Nat.le_of_ble_eq_true rfl, Nat.le_of_ble_eq_true rfl⟩) (fun I42 L42 H locs h hB => ?_)
        refine lv_aload_n hx hb dX7_keep_45 rfl (lv_at hl 0 rfl) ?_
        refine lv_iconst (v := (1 : Int32)) hx hb dX7_keep_46 (by decide) ?_
        refine zz_putz hx hb hown zw hB zP_X7_71 zz_bool1 zdC_0 rfl dX7_keep_47 (fun H locs hB => ?_)
        obtain ⟨I47, eI47⟩ : ∃ z : zz_I, z = zz_up I42 0 11 (1 : Int32) := ⟨_, rfl⟩
        rw [← eI47] at hB
        have h := h I47 eI47
        refine lv_aload_n hx hb dX7_keep_50 rfl (lv_at hl 0 rfl) ?_
        refine zz_getr (k' := 14) hx hb hown zw hB zF_X7_19 zdC_0 rfl rfl dX7_keep_51 ?_
        refine zz_geti hx hb hown zw hB zF_X7_263 zdC_14 rfl dX7_keep_54 ?_
        exact zz_iret hx hb hr hlocks hB h dX7_keep_57
      · have h := h.2 c12
        refine lv_aload_n hx hb dX7_keep_15 rfl (lv_at hl 0 rfl) ?_
        refine zz_getr (k' := 48) hx hb hown zw hB zF_X7_61 zdC_0 rfl rfl dX7_keep_16 ?_
        refine lv_aload_n hx hb dX7_keep_19 rfl (lv_at hl 0 rfl) ?_
        refine zz_getr (k' := 21) hx hb hown zw hB zF_X7_26 zdC_0 rfl rfl dX7_keep_20 ?_
        refine zz_gov hB hA (zz_runV (As := [.ref (a 21)]) (rest := []) hx hb hml hown zw hB zM_X7_96 (zc_X6_copyFrom l D ca a I L H.size zz_isT_48 zz_isT_21 h) zdC_48 rfl rfl hl.1 rfl (Nat.le_of_ble_eq_true rfl) rfl rfl ⟨Nat.le_of_ble_eq_true rfl, Nat.le_of_ble_eq_true rfl⟩ dX7_keep_23 ⟨Nat.le_of_ble_eq_true rfl, Nat.le_of_ble_eq_true rfl⟩) (fun I23 L23 H locs h hB => ?_)
        refine lv_aload_n hx hb dX7_keep_26 rfl (lv_at hl 0 rfl) ?_
        refine lv_iconst (v := (1 : Int32)) hx hb dX7_keep_27 (by decide) ?_
        refine zz_putz hx hb hown zw hB zP_X7_67 zz_bool1 zdC_0 rfl dX7_keep_28 (fun H locs hB => ?_)
        obtain ⟨I28, eI28⟩ : ∃ z : zz_I, z = zz_up I23 0 10 (1 : Int32) := ⟨_, rfl⟩
        rw [← eI28] at hB
        have h := h I28 eI28
        refine lv_goto (tgt := 50) hx hb dX7_keep_31 (by decide) ?_
        refine lv_aload_n hx hb dX7_keep_50 rfl (lv_at hl 0 rfl) ?_
        refine zz_getr (k' := 14) hx hb hown zw hB zF_X7_19 zdC_0 rfl rfl dX7_keep_51 ?_
        refine zz_geti hx hb hown zw hB zF_X7_263 zdC_14 rfl dX7_keep_54 ?_
        exact zz_iret hx hb hr hlocks hB h dX7_keep_57
    · have h := h.2 c6
      refine lv_iconst (v := (-1 : Int32)) hx hb dX7_keep_9 (by decide) ?_
      exact zz_iret hx hb hr hlocks hB h dX7_keep_10
theorem zc_X7_keep (l : Launch) (D : va_G) (ca : Nat → ClassId) (a : Nat → Nat) (I : zz_I) (L : zz_L) (sz : Nat) {x1 : Int32} {P : Int32 → zz_I → zz_L → Prop}  (h : zp_X7_keep x1 P I L) : Met l yX7_keep [.code yX7_keep cX7_keep 2 (some .int)] ({ frames := 2, cells := 0, slots := 0, locals := 61 } : Room) (zz_Pre D ca zz_dC [.ref (a 0), .int x1] a I L sz) (zz_Qi D ca zz_dC (zz_A ca zz_dC a I L sz) a P) 0 0 (zz_A ca zz_dC a I L sz) :=
  zz_start (by decide) (Nat.le_of_ble_eq_true rfl) (fun p e s m below meth c X hsz hA => zq_X7_keep X hA  h)
def zp_X7_lies (x1 : Int32) (x2 : Int32) (P : Int32 → Prop) (I : zz_I) (L : zz_L) : Prop := zp_X2_hasWord x1 (fun r5 => (r5 = 0 → P (-1 : Int32)) ∧ (¬ r5 = 0 → zp_X6_hasUnit 21 x2 (fun r16 => (¬ r16 = 0 → zp_X6_holdsWord 21 x1 x2 (fun r34 => (r34 = 0 → P (0 : Int32)) ∧ (¬ r34 = 0 → P (1 : Int32))) I L) ∧ (r16 = 0 → P (-1 : Int32))) I L)) I L
set_option maxHeartbeats 4000000 in
set_option maxRecDepth 100000 in
theorem zq_X7_lies {p : Program} {l : Launch} {e : Env} {s : State} {m : MethodId} {args : Array Value} {below : List Frame} {meth : Method} {c : Code} {D : va_G} {ca : Nat → ClassId} {A : Nat → Prop} {a : Nat → Nat}  {P : Int32 → Prop} {I : zz_I} {L : zz_L} {x1 : Int32} {x2 : Int32} (X : zz_X p s m meth c cX7_lies RX7 (some .int) 3) (hA : ∀ q, s.heap.size ≤ q → A q)   (h : zp_X7_lies x1 x2 P I L) : zz_Go p l e ({ frames := 2, cells := 0, slots := 0, locals := 51 } : Room) s m args below meth c 0 0 (MQ below (zz_Qi D ca zz_dC A a (fun r I9 L9 => P r ∧ I9 = I ∧ L9 = L)) args s 0 0 A) D ca zz_dC A 3 0 a [] [(0, .ref (a 0)), (1, .int x1), (2, .int x2)] I L := by
  obtain ⟨hx, hb, hml, hown, zw, hr, hlocks⟩ := id X
  intro H locs ls hB hl
  unfold zp_X7_lies at h
  refine lv_aload_n hx hb dX7_lies_0 rfl (lv_at hl 0 rfl) ?_
  refine zz_getr (k' := 14) hx hb hown zw hB zF_X7_19 zdC_0 rfl rfl dX7_lies_1 ?_
  refine lv_iload_n hx hb dX7_lies_4 rfl (lv_at hl 1 rfl) ?_
  refine zz_goip hB hA (zz_runV (As := [.int x1]) (rest := []) hx hb hml hown zw hB zM_X7_105 (zc_X2_hasWord l D ca a I L H.size h) zdC_14 rfl rfl hl.1 rfl (Nat.le_of_ble_eq_true rfl) rfl rfl ⟨Nat.le_of_ble_eq_true rfl, Nat.le_of_ble_eq_true rfl⟩ dX7_lies_5 ⟨Nat.le_of_ble_eq_true rfl, Nat.le_of_ble_eq_true rfl⟩) (fun r5 H locs h hB => ?_)
  refine lv_if_eq (tgt := 22) hx hb dX7_lies_8 (by decide) (fun c8 => ?_) (fun c8 => ?_)
  · have h := h.1 c8
    refine lv_iconst (v := (-1 : Int32)) hx hb dX7_lies_22 (by decide) ?_
    exact zz_iret hx hb hr hlocks hB ⟨h, rfl, rfl⟩ dX7_lies_23
  · have h := h.2 c8
    refine lv_aload_n hx hb dX7_lies_11 rfl (lv_at hl 0 rfl) ?_
    refine zz_getr (k' := 21) hx hb hown zw hB zF_X7_26 zdC_0 rfl rfl dX7_lies_12 ?_
    refine lv_iload_n hx hb dX7_lies_15 rfl (lv_at hl 2 rfl) ?_
    refine zz_goip hB hA (zz_runV (As := [.int x2]) (rest := []) hx hb hml hown zw hB zM_X7_132 (zc_X6_hasUnit l D ca a I L H.size zz_isT_21 h) zdC_21 rfl rfl hl.1 rfl (Nat.le_of_ble_eq_true rfl) rfl rfl ⟨Nat.le_of_ble_eq_true rfl, Nat.le_of_ble_eq_true rfl⟩ dX7_lies_16 ⟨Nat.le_of_ble_eq_true rfl, Nat.le_of_ble_eq_true rfl⟩) (fun r16 H locs h hB => ?_)
    refine lv_if_ne (tgt := 24) hx hb dX7_lies_19 (by decide) (fun c19 => ?_) (fun c19 => ?_)
    · have h := h.1 c19
      refine lv_aload_n hx hb dX7_lies_24 rfl (lv_at hl 0 rfl) ?_
      refine zz_getr (k' := 21) hx hb hown zw hB zF_X7_26 zdC_0 rfl rfl dX7_lies_25 ?_
      refine lv_aload_n hx hb dX7_lies_28 rfl (lv_at hl 0 rfl) ?_
      refine zz_getr (k' := 14) hx hb hown zw hB zF_X7_19 zdC_0 rfl rfl dX7_lies_29 ?_
      refine lv_iload_n hx hb dX7_lies_32 rfl (lv_at hl 1 rfl) ?_
      refine lv_iload_n hx hb dX7_lies_33 rfl (lv_at hl 2 rfl) ?_
      refine zz_goip hB hA (zz_runV (As := [.ref (a 14), .int x1, .int x2]) (rest := []) hx hb hml hown zw hB zM_X7_170 (zc_X6_holdsWord l D ca a I L H.size zz_isT_21 h) zdC_21 rfl rfl hl.1 rfl (Nat.le_of_ble_eq_true rfl) rfl rfl ⟨Nat.le_of_ble_eq_true rfl, Nat.le_of_ble_eq_true rfl⟩ dX7_lies_34 ⟨Nat.le_of_ble_eq_true rfl, Nat.le_of_ble_eq_true rfl⟩) (fun r34 H locs h hB => ?_)
      refine lv_if_eq (tgt := 44) hx hb dX7_lies_37 (by decide) (fun c37 => ?_) (fun c37 => ?_)
      · have h := h.1 c37
        refine lv_iconst (v := (0 : Int32)) hx hb dX7_lies_44 (by decide) ?_
        exact zz_iret hx hb hr hlocks hB ⟨h, rfl, rfl⟩ dX7_lies_45
      · have h := h.2 c37
        refine lv_iconst (v := (1 : Int32)) hx hb dX7_lies_40 (by decide) ?_
        refine lv_goto (tgt := 45) hx hb dX7_lies_41 (by decide) ?_
        exact zz_iret hx hb hr hlocks hB ⟨h, rfl, rfl⟩ dX7_lies_45
    · have h := h.2 c19
      refine lv_iconst (v := (-1 : Int32)) hx hb dX7_lies_22 (by decide) ?_
      exact zz_iret hx hb hr hlocks hB ⟨h, rfl, rfl⟩ dX7_lies_23
theorem zc_X7_lies (l : Launch) (D : va_G) (ca : Nat → ClassId) (a : Nat → Nat) (I : zz_I) (L : zz_L) (sz : Nat) {x1 : Int32} {x2 : Int32} {P : Int32 → Prop}  (h : zp_X7_lies x1 x2 P I L) : Met l yX7_lies [.code yX7_lies cX7_lies 3 (some .int)] ({ frames := 2, cells := 0, slots := 0, locals := 51 } : Room) (zz_Pre D ca zz_dC [.ref (a 0), .int x1, .int x2] a I L sz) (zz_Qi D ca zz_dC (zz_A ca zz_dC a I L sz) a (fun r I9 L9 => P r ∧ I9 = I ∧ L9 = L)) 0 0 (zz_A ca zz_dC a I L sz) :=
  zz_start (by decide) (Nat.le_of_ble_eq_true rfl) (fun p e s m below meth c X hsz hA => zq_X7_lies X hA  h)
def zp_X7_line (x1 : Int32) (P : Int32 → Prop) (I : zz_I) (L : zz_L) : Prop := zp_X6_hasUnit 21 x1 (fun r5 => (r5 = 0 → P (-1 : Int32)) ∧ (¬ r5 = 0 → vp_in x1 24 ∧ (P (I 22 x1.toNatClampNeg)))) I L
set_option maxHeartbeats 4000000 in
set_option maxRecDepth 100000 in
theorem zq_X7_line {p : Program} {l : Launch} {e : Env} {s : State} {m : MethodId} {args : Array Value} {below : List Frame} {meth : Method} {c : Code} {D : va_G} {ca : Nat → ClassId} {A : Nat → Prop} {a : Nat → Nat}  {P : Int32 → Prop} {I : zz_I} {L : zz_L} {x1 : Int32} (X : zz_X p s m meth c cX7_line RX7 (some .int) 2) (hA : ∀ q, s.heap.size ≤ q → A q)   (h : zp_X7_line x1 P I L) : zz_Go p l e ({ frames := 1, cells := 0, slots := 0, locals := 21 } : Room) s m args below meth c 0 0 (MQ below (zz_Qi D ca zz_dC A a (fun r I9 L9 => P r ∧ I9 = I ∧ L9 = L)) args s 0 0 A) D ca zz_dC A 2 0 a [] [(0, .ref (a 0)), (1, .int x1)] I L := by
  obtain ⟨hx, hb, hml, hown, zw, hr, hlocks⟩ := id X
  intro H locs ls hB hl
  unfold zp_X7_line at h
  refine lv_aload_n hx hb dX7_line_0 rfl (lv_at hl 0 rfl) ?_
  refine zz_getr (k' := 21) hx hb hown zw hB zF_X7_26 zdC_0 rfl rfl dX7_line_1 ?_
  refine lv_iload_n hx hb dX7_line_4 rfl (lv_at hl 1 rfl) ?_
  refine zz_goip hB hA (zz_runV (As := [.int x1]) (rest := []) hx hb hml hown zw hB zM_X7_132 (zc_X6_hasUnit l D ca a I L H.size zz_isT_21 h) zdC_21 rfl rfl hl.1 rfl (Nat.le_of_ble_eq_true rfl) rfl rfl ⟨Nat.le_of_ble_eq_true rfl, Nat.le_of_ble_eq_true rfl⟩ dX7_line_5 ⟨Nat.le_of_ble_eq_true rfl, Nat.le_of_ble_eq_true rfl⟩) (fun r5 H locs h hB => ?_)
  refine lv_if_eq (tgt := 23) hx hb dX7_line_8 (by decide) (fun c8 => ?_) (fun c8 => ?_)
  · have h := h.1 c8
    refine lv_iconst (v := (-1 : Int32)) hx hb dX7_line_23 (by decide) ?_
    exact zz_iret hx hb hr hlocks hB ⟨h, rfl, rfl⟩ dX7_line_24
  · have h := h.2 c8
    refine lv_aload_n hx hb dX7_line_11 rfl (lv_at hl 0 rfl) ?_
    refine zz_getr (k' := 21) hx hb hown zw hB zF_X7_26 zdC_0 rfl rfl dX7_line_12 ?_
    refine zz_getr (k' := 22) hx hb hown zw hB zF_X7_135 zdC_21 rfl rfl dX7_line_15 ?_
    refine lv_iload_n hx hb dX7_line_18 rfl (lv_at hl 1 rfl) ?_
    obtain ⟨hi19, h⟩ := h
    refine zz_iald hx hb hB zdC_22 hi19 dX7_line_19 ?_
    refine lv_goto (tgt := 24) hx hb dX7_line_20 (by decide) ?_
    exact zz_iret hx hb hr hlocks hB ⟨h, rfl, rfl⟩ dX7_line_24
theorem zc_X7_line (l : Launch) (D : va_G) (ca : Nat → ClassId) (a : Nat → Nat) (I : zz_I) (L : zz_L) (sz : Nat) {x1 : Int32} {P : Int32 → Prop}  (h : zp_X7_line x1 P I L) : Met l yX7_line [.code yX7_line cX7_line 2 (some .int)] ({ frames := 1, cells := 0, slots := 0, locals := 21 } : Room) (zz_Pre D ca zz_dC [.ref (a 0), .int x1] a I L sz) (zz_Qi D ca zz_dC (zz_A ca zz_dC a I L sz) a (fun r I9 L9 => P r ∧ I9 = I ∧ L9 = L)) 0 0 (zz_A ca zz_dC a I L sz) :=
  zz_start (by decide) (Nat.le_of_ble_eq_true rfl) (fun p e s m below meth c X hsz hA => zq_X7_line X hA  h)
def zp_X7_power_5b (K5 : Int64 → Int32 → Prop) (P : Int64 → Prop) (x0 : Int32) (x1 : Int32) (x2 : Int64) (x4 : Int32) (I : zz_I) (L : zz_L) : Prop := (x1 ≤ x4 → P x2) ∧ (¬ x1 ≤ x4 → ∀ v15 : Int64, v15 = x2 * (x0.toInt64) → (∀ v16 : Int32, v16 = x4 + (1 : Int32) → (K5 v15 v16)))
set_option maxHeartbeats 4000000 in
set_option maxRecDepth 100000 in
theorem zq_X7_power_5b {p : Program} {l : Launch} {e : Env} {s : State} {m : MethodId} {args : Array Value} {below : List Frame} {meth : Method} {c : Code} {D : va_G} {ca : Nat → ClassId} {A : Nat → Prop} {a : Nat → Nat} {K5 : Int64 → Int32 → Prop} {P : Int64 → Prop} {I : zz_I} {L : zz_L} {x0 : Int32} {x1 : Int32} {x2 : Int64} {x4 : Int32} (X : zz_X p s m meth c cX7_power RX7 (some .long) 5) (hA : ∀ q, s.heap.size ≤ q → A q)  (hK5 : ∀ (y2 : Int64) (y4 : Int32), K5 y2 y4 → zz_Go p l e ({ frames := 0, cells := 0, slots := 0, locals := 0 } : Room) s m args below meth c 0 0 (MQ below (zz_Ql D ca zz_dC A a (fun r I9 L9 => P r ∧ I9 = I ∧ L9 = L)) args s 0 0 A) D ca zz_dC A 5 5 a [] [(0, .int x0), (1, .int x1), (2, .long y2), (4, .int y4)] I L) (h : zp_X7_power_5b K5 P x0 x1 x2 x4 I L) : zz_Go p l e ({ frames := 0, cells := 0, slots := 0, locals := 0 } : Room) s m args below meth c 0 0 (MQ below (zz_Ql D ca zz_dC A a (fun r I9 L9 => P r ∧ I9 = I ∧ L9 = L)) args s 0 0 A) D ca zz_dC A 5 5 a [] [(0, .int x0), (1, .int x1), (2, .long x2), (4, .int x4)] I L := by
  obtain ⟨hx, hb, hml, hown, zw, hr, hlocks⟩ := id X
  intro H locs ls hB hl
  unfold zp_X7_power_5b at h
  refine lv_iload hx hb dX7_power_5 (lv_at hl 3 rfl) ?_
  refine lv_iload_n hx hb dX7_power_7 rfl (lv_at hl 1 rfl) ?_
  refine lv_icmp_ge (tgt := 22) hx hb dX7_power_8 (by decide) (fun c8 => ?_) (fun c8 => ?_)
  · have h := h.1 c8
    refine lv_lload_n hx hb dX7_power_22 rfl (lv_at hl 2 rfl) ?_
    exact zz_lret hx hb hr hlocks hB ⟨h, rfl, rfl⟩ dX7_power_23
  · have h := h.2 c8
    refine lv_lload_n hx hb dX7_power_11 rfl (lv_at hl 2 rfl) ?_
    refine lv_iload_n hx hb dX7_power_12 rfl (lv_at hl 0 rfl) ?_
    refine lv_i2l (v := x0.toInt64) hx hb dX7_power_13 rfl ?_
    refine lv_lmul hx hb dX7_power_14 ?_
    refine lv_topl (fun v15 ev15 => ?_)
    have h := h v15 ev15
    refine lv_lstore_n (lv' := [(2, .long v15), (0, .int x0), (1, .int x1), (4, .int x4)]) hx hb dX7_power_15 rfl hl (by decide) rfl (fun ls hl => ?_)
    obtain ⟨v16, ev16⟩ : ∃ z : Int32, z = x4 + (1 : Int32) := ⟨_, rfl⟩
    have h := h v16 ev16
    refine lv_iinc (v := v16) (lv' := [(4, .int v16), (2, .long v15), (0, .int x0), (1, .int x1)]) hx hb dX7_power_16 hl (k := 3) rfl (by rw [ev16]; rfl) (by decide) rfl (fun ls hl => ?_)
    refine lv_goto (tgt := 5) hx hb dX7_power_19 (by decide) ?_
    exact hK5 _ _ h H locs ls hB (lv_sub hl [2, 3, 1, 0] rfl)
def zp_X7_power_5  (P : Int64 → Prop) (x0 : Int32) (x1 : Int32) (x2 : Int64) (x4 : Int32) (I : zz_I) (L : zz_L) : Prop := ∃ (Inv : Int64 → Int32 → Prop) (μ : Int64 → Int32 → Nat), Inv x2 x4 ∧ ∀ (y2 : Int64) (y4 : Int32), Inv y2 y4 → zp_X7_power_5b  (fun z2 z4 => Inv z2 z4 ∧ μ z2 z4 < μ y2 y4) P x0 x1 y2 y4 I L
set_option maxHeartbeats 4000000 in
set_option maxRecDepth 100000 in
theorem zq_X7_power_5 {p : Program} {l : Launch} {e : Env} {s : State} {m : MethodId} {args : Array Value} {below : List Frame} {meth : Method} {c : Code} {D : va_G} {ca : Nat → ClassId} {A : Nat → Prop} {a : Nat → Nat}  {P : Int64 → Prop} {I : zz_I} {L : zz_L} {x0 : Int32} {x1 : Int32} {x2 : Int64} {x4 : Int32} (X : zz_X p s m meth c cX7_power RX7 (some .long) 5) (hA : ∀ q, s.heap.size ≤ q → A q)   (h : zp_X7_power_5  P x0 x1 x2 x4 I L) : zz_Go p l e ({ frames := 0, cells := 0, slots := 0, locals := 0 } : Room) s m args below meth c 0 0 (MQ below (zz_Ql D ca zz_dC A a (fun r I9 L9 => P r ∧ I9 = I ∧ L9 = L)) args s 0 0 A) D ca zz_dC A 5 5 a [] [(0, .int x0), (1, .int x1), (2, .long x2), (4, .int x4)] I L := by
  unfold zp_X7_power_5 at h
  obtain ⟨Inv, μ, hv0, hs⟩ := h
  have key : ∀ (n9 : Nat) (y2 : Int64) (y4 : Int32), μ y2 y4 < n9 → Inv y2 y4 → zz_Go p l e ({ frames := 0, cells := 0, slots := 0, locals := 0 } : Room) s m args below meth c 0 0 (MQ below (zz_Ql D ca zz_dC A a (fun r I9 L9 => P r ∧ I9 = I ∧ L9 = L)) args s 0 0 A) D ca zz_dC A 5 5 a [] [(0, .int x0), (1, .int x1), (2, .long y2), (4, .int y4)] I L := by
    intro n9
    induction n9 with
    | zero => intro y2 y4 hn; exact absurd hn (Nat.not_lt_zero _)
    | succ n9 ih =>
      intro y2 y4 hn hi
      exact zq_X7_power_5b (K5 := (fun z2 z4 => Inv z2 z4 ∧ μ z2 z4 < μ y2 y4)) X hA   (fun z2 z4 hz => ih z2 z4 (Nat.lt_of_lt_of_le hz.2 (Nat.le_of_lt_succ hn)) hz.1) (hs y2 y4 hi)
  exact key _ x2 x4 (Nat.lt_succ_self _) hv0
def zp_X7_power (x0 : Int32) (x1 : Int32) (P : Int64 → Prop) (I : zz_I) (L : zz_L) : Prop := zp_X7_power_5 P x0 x1 (1 : Int64) (0 : Int32) I L
set_option maxHeartbeats 4000000 in
set_option maxRecDepth 100000 in
theorem zq_X7_power {p : Program} {l : Launch} {e : Env} {s : State} {m : MethodId} {args : Array Value} {below : List Frame} {meth : Method} {c : Code} {D : va_G} {ca : Nat → ClassId} {A : Nat → Prop} {a : Nat → Nat}  {P : Int64 → Prop} {I : zz_I} {L : zz_L} {x0 : Int32} {x1 : Int32} (X : zz_X p s m meth c cX7_power RX7 (some .long) 5) (hA : ∀ q, s.heap.size ≤ q → A q)   (h : zp_X7_power x0 x1 P I L) : zz_Go p l e ({ frames := 0, cells := 0, slots := 0, locals := 0 } : Room) s m args below meth c 0 0 (MQ below (zz_Ql D ca zz_dC A a (fun r I9 L9 => P r ∧ I9 = I ∧ L9 = L)) args s 0 0 A) D ca zz_dC A 5 0 a [] [(0, .int x0), (1, .int x1)] I L := by
  obtain ⟨hx, hb, hml, hown, zw, hr, hlocks⟩ := id X
  intro H locs ls hB hl
  unfold zp_X7_power at h
  refine lv_lconst (v := (1 : Int64)) hx hb dX7_power_0 (by decide) ?_
  refine lv_lstore_n (lv' := [(2, .long (1 : Int64)), (0, .int x0), (1, .int x1)]) hx hb dX7_power_1 rfl hl (by decide) rfl (fun ls hl => ?_)
  refine lv_iconst (v := (0 : Int32)) hx hb dX7_power_2 (by decide) ?_
  refine lv_istore (lv' := [(4, .int (0 : Int32)), (2, .long (1 : Int64)), (0, .int x0), (1, .int x1)]) hx hb dX7_power_3 hl (by decide) rfl (fun ls hl => ?_)
  exact zq_X7_power_5 X hA  h H locs ls hB (lv_sub hl [2, 3, 1, 0] rfl)
theorem zc_X7_power (l : Launch) (D : va_G) (ca : Nat → ClassId) (a : Nat → Nat) (I : zz_I) (L : zz_L) (sz : Nat) {x0 : Int32} {x1 : Int32} {P : Int64 → Prop}  (h : zp_X7_power x0 x1 P I L) : Met l yX7_power [.code yX7_power cX7_power 5 (some .long)] ({ frames := 0, cells := 0, slots := 0, locals := 0 } : Room) (zz_Pre D ca zz_dC [.int x0, .int x1] a I L sz) (zz_Ql D ca zz_dC (zz_A ca zz_dC a I L sz) a (fun r I9 L9 => P r ∧ I9 = I ∧ L9 = L)) 0 0 (zz_A ca zz_dC a I L sz) :=
  zz_start (by decide) (Nat.le_of_ble_eq_true rfl) (fun p e s m below meth c X hsz hA => zq_X7_power X hA  h)
def zp_X7_lowestTerms_55  (P : Int64 → Prop) (x5 : Int64) (s0 : Int64) (I : zz_I) (L : zz_L) : Prop := (¬ x5 = (0 : Int64) → ¬ x5 = 0 ∧ (P (s0 / x5))) ∧ (x5 = (0 : Int64) → P s0)
set_option maxHeartbeats 4000000 in
set_option maxRecDepth 100000 in
theorem zq_X7_lowestTerms_55 {p : Program} {l : Launch} {e : Env} {s : State} {m : MethodId} {args : Array Value} {below : List Frame} {meth : Method} {c : Code} {D : va_G} {ca : Nat → ClassId} {A : Nat → Prop} {a : Nat → Nat}  {P : Int64 → Prop} {I : zz_I} {L : zz_L} {x5 : Int64} {s0 : Int64} (X : zz_X p s m meth c cX7_lowestTerms RX7 (some .long) 12) (hA : ∀ q, s.heap.size ≤ q → A q)   (h : zp_X7_lowestTerms_55  P x5 s0 I L) : zz_Go p l e ({ frames := 0, cells := 0, slots := 0, locals := 0 } : Room) s m args below meth c 0 0 (MQ below (zz_Ql D ca zz_dC A a (fun r I9 L9 => P r ∧ I9 = I ∧ L9 = L)) args s 0 0 A) D ca zz_dC A 12 55 a [.long s0] [(5, .long x5)] I L := by
  obtain ⟨hx, hb, hml, hown, zw, hr, hlocks⟩ := id X
  intro H locs ls hB hl
  unfold zp_X7_lowestTerms_55 at h
  refine lv_lstore (lv' := [(9, .long s0), (5, .long x5)]) hx hb dX7_lowestTerms_55 hl (by decide) rfl (fun ls hl => ?_)
  refine lv_lload hx hb dX7_lowestTerms_57 (lv_at hl 1 rfl) ?_
  refine lv_lconst (v := (0 : Int64)) hx hb dX7_lowestTerms_59 (by decide) ?_
  refine zz_l_ne (tgt := 69) hx hb dX7_lowestTerms_60 dX7_lowestTerms_61 (by decide) (fun c60 => ?_) (fun c60 => ?_)
  · have h := h.1 c60
    refine lv_lload hx hb dX7_lowestTerms_69 (lv_at hl 0 rfl) ?_
    refine lv_lload hx hb dX7_lowestTerms_71 (lv_at hl 1 rfl) ?_
    obtain ⟨h73, h⟩ := h
    refine lv_ldiv hx hb dX7_lowestTerms_73 h73 ?_
    exact zz_lret hx hb hr hlocks hB ⟨h, rfl, rfl⟩ dX7_lowestTerms_74
  · have h := h.2 c60
    refine lv_lload hx hb dX7_lowestTerms_64 (lv_at hl 0 rfl) ?_
    refine lv_goto (tgt := 74) hx hb dX7_lowestTerms_66 (by decide) ?_
    exact zz_lret hx hb hr hlocks hB ⟨h, rfl, rfl⟩ dX7_lowestTerms_74
def zp_X7_lowestTerms_45  (P : Int64 → Prop) (x0 : Int64) (x2 : Int64) (x4 : Int32) (x5 : Int64) (I : zz_I) (L : zz_L) : Prop := (x4 = 0 → zp_X7_lowestTerms_55 P x5 x2 I L) ∧ (¬ x4 = 0 → zp_X7_lowestTerms_55 P x5 x0 I L)
set_option maxHeartbeats 4000000 in
set_option maxRecDepth 100000 in
theorem zq_X7_lowestTerms_45 {p : Program} {l : Launch} {e : Env} {s : State} {m : MethodId} {args : Array Value} {below : List Frame} {meth : Method} {c : Code} {D : va_G} {ca : Nat → ClassId} {A : Nat → Prop} {a : Nat → Nat}  {P : Int64 → Prop} {I : zz_I} {L : zz_L} {x0 : Int64} {x2 : Int64} {x4 : Int32} {x5 : Int64} (X : zz_X p s m meth c cX7_lowestTerms RX7 (some .long) 12) (hA : ∀ q, s.heap.size ≤ q → A q)   (h : zp_X7_lowestTerms_45  P x0 x2 x4 x5 I L) : zz_Go p l e ({ frames := 0, cells := 0, slots := 0, locals := 0 } : Room) s m args below meth c 0 0 (MQ below (zz_Ql D ca zz_dC A a (fun r I9 L9 => P r ∧ I9 = I ∧ L9 = L)) args s 0 0 A) D ca zz_dC A 12 45 a [] [(0, .long x0), (2, .long x2), (4, .int x4), (5, .long x5)] I L := by
  obtain ⟨hx, hb, hml, hown, zw, hr, hlocks⟩ := id X
  intro H locs ls hB hl
  unfold zp_X7_lowestTerms_45 at h
  refine lv_iload hx hb dX7_lowestTerms_45 (lv_at hl 2 rfl) ?_
  refine lv_if_eq (tgt := 54) hx hb dX7_lowestTerms_47 (by decide) (fun c47 => ?_) (fun c47 => ?_)
  · have h := h.1 c47
    refine lv_lload_n hx hb dX7_lowestTerms_54 rfl (lv_at hl 1 rfl) ?_
    exact zq_X7_lowestTerms_55 X hA  h H locs ls hB (lv_sub hl [3] rfl)
  · have h := h.2 c47
    refine lv_lload_n hx hb dX7_lowestTerms_50 rfl (lv_at hl 0 rfl) ?_
    refine lv_goto (tgt := 55) hx hb dX7_lowestTerms_51 (by decide) ?_
    exact zq_X7_lowestTerms_55 X hA  h H locs ls hB (lv_sub hl [3] rfl)
def zp_X7_lowestTerms_9b (K9 : Int64 → Int64 → Int32 → Prop) (P : Int64 → Prop) (x0 : Int64) (x2 : Int64) (x4 : Int32) (x5 : Int64) (x7 : Int64) (x9 : Int32) (I : zz_I) (L : zz_L) : Prop := ((200 : Int32) ≤ x9 → zp_X7_lowestTerms_45 P x0 x2 x4 x5 I L) ∧ (¬ (200 : Int32) ≤ x9 → (x7 = (0 : Int64) → zp_X7_lowestTerms_45 P x0 x2 x4 x5 I L) ∧ (¬ x7 = (0 : Int64) → ¬ x7 = 0 ∧ (∀ v29 : Int64, v29 = x5 - x5 / x7 * x7 → (∀ v39 : Int32, v39 = x9 + (1 : Int32) → (K9 x7 v29 v39)))))
set_option maxHeartbeats 4000000 in
set_option maxRecDepth 100000 in
theorem zq_X7_lowestTerms_9b {p : Program} {l : Launch} {e : Env} {s : State} {m : MethodId} {args : Array Value} {below : List Frame} {meth : Method} {c : Code} {D : va_G} {ca : Nat → ClassId} {A : Nat → Prop} {a : Nat → Nat} {K9 : Int64 → Int64 → Int32 → Prop} {P : Int64 → Prop} {I : zz_I} {L : zz_L} {x0 : Int64} {x2 : Int64} {x4 : Int32} {x5 : Int64} {x7 : Int64} {x9 : Int32} (X : zz_X p s m meth c cX7_lowestTerms RX7 (some .long) 12) (hA : ∀ q, s.heap.size ≤ q → A q)  (hK9 : ∀ (y5 : Int64) (y7 : Int64) (y9 : Int32), K9 y5 y7 y9 → zz_Go p l e ({ frames := 0, cells := 0, slots := 0, locals := 0 } : Room) s m args below meth c 0 0 (MQ below (zz_Ql D ca zz_dC A a (fun r I9 L9 => P r ∧ I9 = I ∧ L9 = L)) args s 0 0 A) D ca zz_dC A 12 9 a [] [(0, .long x0), (2, .long x2), (4, .int x4), (5, .long y5), (7, .long y7), (9, .int y9)] I L) (h : zp_X7_lowestTerms_9b K9 P x0 x2 x4 x5 x7 x9 I L) : zz_Go p l e ({ frames := 0, cells := 0, slots := 0, locals := 0 } : Room) s m args below meth c 0 0 (MQ below (zz_Ql D ca zz_dC A a (fun r I9 L9 => P r ∧ I9 = I ∧ L9 = L)) args s 0 0 A) D ca zz_dC A 12 9 a [] [(0, .long x0), (2, .long x2), (4, .int x4), (5, .long x5), (7, .long x7), (9, .int x9)] I L := by
  obtain ⟨hx, hb, hml, hown, zw, hr, hlocks⟩ := id X
  intro H locs ls hB hl
  unfold zp_X7_lowestTerms_9b at h
  refine lv_iload hx hb dX7_lowestTerms_9 (lv_at hl 5 rfl) ?_
  refine lv_sipush (v := (200 : Int32)) hx hb dX7_lowestTerms_11 (by decide) ?_
  refine lv_icmp_ge (tgt := 45) hx hb dX7_lowestTerms_14 (by decide) (fun c14 => ?_) (fun c14 => ?_)
  · have h := h.1 c14
    exact zq_X7_lowestTerms_45 X hA  h H locs ls hB (lv_sub hl [0, 1, 2, 3] rfl)
  · have h := h.2 c14
    refine lv_lload hx hb dX7_lowestTerms_17 (lv_at hl 4 rfl) ?_
    refine lv_lconst (v := (0 : Int64)) hx hb dX7_lowestTerms_19 (by decide) ?_
    refine zz_l_eq (tgt := 45) hx hb dX7_lowestTerms_20 dX7_lowestTerms_21 (by decide) (fun c20 => ?_) (fun c20 => ?_)
    · have h := h.1 c20
      exact zq_X7_lowestTerms_45 X hA  h H locs ls hB (lv_sub hl [0, 1, 2, 3] rfl)
    · have h := h.2 c20
      refine lv_lload hx hb dX7_lowestTerms_24 (lv_at hl 3 rfl) ?_
      refine lv_lload hx hb dX7_lowestTerms_26 (lv_at hl 4 rfl) ?_
      obtain ⟨h28, h⟩ := h
      refine lv_lrem hx hb dX7_lowestTerms_28 h28 ?_
      refine lv_topl (fun v29 ev29 => ?_)
      have h := h v29 ev29
      refine lv_lstore (lv' := [(10, .long v29), (0, .long x0), (2, .long x2), (4, .int x4), (5, .long x5), (7, .long x7), (9, .int x9)]) hx hb dX7_lowestTerms_29 hl (by decide) rfl (fun ls hl => ?_)
      refine lv_lload hx hb dX7_lowestTerms_31 (lv_at hl 5 rfl) ?_
      refine lv_lstore (lv' := [(5, .long x7), (10, .long v29), (0, .long x0), (2, .long x2), (4, .int x4), (7, .long x7), (9, .int x9)]) hx hb dX7_lowestTerms_33 hl (by decide) rfl (fun ls hl => ?_)
      refine lv_lload hx hb dX7_lowestTerms_35 (lv_at hl 1 rfl) ?_
      refine lv_lstore (lv' := [(7, .long v29), (5, .long x7), (10, .long v29), (0, .long x0), (2, .long x2), (4, .int x4), (9, .int x9)]) hx hb dX7_lowestTerms_37 hl (by decide) rfl (fun ls hl => ?_)
      obtain ⟨v39, ev39⟩ : ∃ z : Int32, z = x9 + (1 : Int32) := ⟨_, rfl⟩
      have h := h v39 ev39
      refine lv_iinc (v := v39) (lv' := [(9, .int v39), (7, .long v29), (5, .long x7), (10, .long v29), (0, .long x0), (2, .long x2), (4, .int x4)]) hx hb dX7_lowestTerms_39 hl (k := 6) rfl (by rw [ev39]; rfl) (by decide) rfl (fun ls hl => ?_)
      refine lv_goto (tgt := 9) hx hb dX7_lowestTerms_42 (by decide) ?_
      exact hK9 _ _ _ h H locs ls hB (lv_sub hl [4, 5, 6, 2, 1, 0] rfl)
def zp_X7_lowestTerms_9  (P : Int64 → Prop) (x0 : Int64) (x2 : Int64) (x4 : Int32) (x5 : Int64) (x7 : Int64) (x9 : Int32) (I : zz_I) (L : zz_L) : Prop := ∃ (Inv : Int64 → Int64 → Int32 → Prop) (μ : Int64 → Int64 → Int32 → Nat), Inv x5 x7 x9 ∧ ∀ (y5 : Int64) (y7 : Int64) (y9 : Int32), Inv y5 y7 y9 → zp_X7_lowestTerms_9b  (fun z5 z7 z9 => Inv z5 z7 z9 ∧ μ z5 z7 z9 < μ y5 y7 y9) P x0 x2 x4 y5 y7 y9 I L
set_option maxHeartbeats 4000000 in
set_option maxRecDepth 100000 in
theorem zq_X7_lowestTerms_9 {p : Program} {l : Launch} {e : Env} {s : State} {m : MethodId} {args : Array Value} {below : List Frame} {meth : Method} {c : Code} {D : va_G} {ca : Nat → ClassId} {A : Nat → Prop} {a : Nat → Nat}  {P : Int64 → Prop} {I : zz_I} {L : zz_L} {x0 : Int64} {x2 : Int64} {x4 : Int32} {x5 : Int64} {x7 : Int64} {x9 : Int32} (X : zz_X p s m meth c cX7_lowestTerms RX7 (some .long) 12) (hA : ∀ q, s.heap.size ≤ q → A q)   (h : zp_X7_lowestTerms_9  P x0 x2 x4 x5 x7 x9 I L) : zz_Go p l e ({ frames := 0, cells := 0, slots := 0, locals := 0 } : Room) s m args below meth c 0 0 (MQ below (zz_Ql D ca zz_dC A a (fun r I9 L9 => P r ∧ I9 = I ∧ L9 = L)) args s 0 0 A) D ca zz_dC A 12 9 a [] [(0, .long x0), (2, .long x2), (4, .int x4), (5, .long x5), (7, .long x7), (9, .int x9)] I L := by
  unfold zp_X7_lowestTerms_9 at h
  obtain ⟨Inv, μ, hv0, hs⟩ := h
  have key : ∀ (n9 : Nat) (y5 : Int64) (y7 : Int64) (y9 : Int32), μ y5 y7 y9 < n9 → Inv y5 y7 y9 → zz_Go p l e ({ frames := 0, cells := 0, slots := 0, locals := 0 } : Room) s m args below meth c 0 0 (MQ below (zz_Ql D ca zz_dC A a (fun r I9 L9 => P r ∧ I9 = I ∧ L9 = L)) args s 0 0 A) D ca zz_dC A 12 9 a [] [(0, .long x0), (2, .long x2), (4, .int x4), (5, .long y5), (7, .long y7), (9, .int y9)] I L := by
    intro n9
    induction n9 with
    | zero => intro y5 y7 y9 hn; exact absurd hn (Nat.not_lt_zero _)
    | succ n9 ih =>
      intro y5 y7 y9 hn hi
      exact zq_X7_lowestTerms_9b (K9 := (fun z5 z7 z9 => Inv z5 z7 z9 ∧ μ z5 z7 z9 < μ y5 y7 y9)) X hA   (fun z5 z7 z9 hz => ih z5 z7 z9 (Nat.lt_of_lt_of_le hz.2 (Nat.le_of_lt_succ hn)) hz.1) (hs y5 y7 y9 hi)
  exact key _ x5 x7 x9 (Nat.lt_succ_self _) hv0
def zp_X7_lowestTerms (x0 : Int64) (x2 : Int64) (x4 : Int32) (P : Int64 → Prop) (I : zz_I) (L : zz_L) : Prop := zp_X7_lowestTerms_9 P x0 x2 x4 x0 x2 (0 : Int32) I L
set_option maxHeartbeats 4000000 in
set_option maxRecDepth 100000 in
theorem zq_X7_lowestTerms {p : Program} {l : Launch} {e : Env} {s : State} {m : MethodId} {args : Array Value} {below : List Frame} {meth : Method} {c : Code} {D : va_G} {ca : Nat → ClassId} {A : Nat → Prop} {a : Nat → Nat}  {P : Int64 → Prop} {I : zz_I} {L : zz_L} {x0 : Int64} {x2 : Int64} {x4 : Int32} (X : zz_X p s m meth c cX7_lowestTerms RX7 (some .long) 12) (hA : ∀ q, s.heap.size ≤ q → A q)   (h : zp_X7_lowestTerms x0 x2 x4 P I L) : zz_Go p l e ({ frames := 0, cells := 0, slots := 0, locals := 0 } : Room) s m args below meth c 0 0 (MQ below (zz_Ql D ca zz_dC A a (fun r I9 L9 => P r ∧ I9 = I ∧ L9 = L)) args s 0 0 A) D ca zz_dC A 12 0 a [] [(0, .long x0), (2, .long x2), (4, .int x4)] I L := by
  obtain ⟨hx, hb, hml, hown, zw, hr, hlocks⟩ := id X
  intro H locs ls hB hl
  unfold zp_X7_lowestTerms at h
  refine lv_lload_n hx hb dX7_lowestTerms_0 rfl (lv_at hl 0 rfl) ?_
  refine lv_lstore (lv' := [(5, .long x0), (0, .long x0), (2, .long x2), (4, .int x4)]) hx hb dX7_lowestTerms_1 hl (by decide) rfl (fun ls hl => ?_)
  refine lv_lload_n hx hb dX7_lowestTerms_3 rfl (lv_at hl 2 rfl) ?_
  refine lv_lstore (lv' := [(7, .long x2), (5, .long x0), (0, .long x0), (2, .long x2), (4, .int x4)]) hx hb dX7_lowestTerms_4 hl (by decide) rfl (fun ls hl => ?_)
  refine lv_iconst (v := (0 : Int32)) hx hb dX7_lowestTerms_6 (by decide) ?_
  refine lv_istore (lv' := [(9, .int (0 : Int32)), (7, .long x2), (5, .long x0), (0, .long x0), (2, .long x2), (4, .int x4)]) hx hb dX7_lowestTerms_7 hl (by decide) rfl (fun ls hl => ?_)
  exact zq_X7_lowestTerms_9 X hA  h H locs ls hB (lv_sub hl [3, 4, 5, 2, 1, 0] rfl)
theorem zc_X7_lowestTerms (l : Launch) (D : va_G) (ca : Nat → ClassId) (a : Nat → Nat) (I : zz_I) (L : zz_L) (sz : Nat) {x0 : Int64} {x2 : Int64} {x4 : Int32} {P : Int64 → Prop}  (h : zp_X7_lowestTerms x0 x2 x4 P I L) : Met l yX7_lowestTerms [.code yX7_lowestTerms cX7_lowestTerms 12 (some .long)] ({ frames := 0, cells := 0, slots := 0, locals := 0 } : Room) (zz_Pre D ca zz_dC [.long x0, .long x2, .int x4] a I L sz) (zz_Ql D ca zz_dC (zz_A ca zz_dC a I L sz) a (fun r I9 L9 => P r ∧ I9 = I ∧ L9 = L)) 0 0 (zz_A ca zz_dC a I L sz) :=
  zz_start (by decide) (Nat.le_of_ble_eq_true rfl) (fun p e s m below meth c X hsz hA => zq_X7_lowestTerms X hA  h)
def zp_X7_lost_49b (K49 : Int64 → Int32 → zz_I → zz_L → Prop) (P : Int32 → zz_I → zz_L → Prop) (x1 : Int32) (x2 : Int32) (x3 : Int32) (x4 : Int32) (x5 : Int64) (x7 : Int32) (I : zz_I) (L : zz_L) : Prop := (x3 < x7 → zp_X7_power (10 : Int32) x4 (fun r121 => zp_X7_lowestTerms x5 r121 x2 (fun r125 => P (r125.toInt32) I L) I L) I L) ∧ (¬ x3 < x7 → (¬ (x7 &&& (x3 ^^^ (-1 : Int32))) = 0 → ∀ v109 : Int32, v109 = x7 + (1 : Int32) → (K49 x5 v109 I L)) ∧ ((x7 &&& (x3 ^^^ (-1 : Int32))) = 0 → zp_X0_countFrom x7 (fun r70 I70 L70 => (r70 ≤ (0 : Int64) → ∀ v109 : Int32, v109 = x7 + (1 : Int32) → (K49 x5 v109 I70 L70)) ∧ (¬ r70 ≤ (0 : Int64) → zp_J6_bitCount_0f7a4 x7 (fun r80 => zp_X7_power ((10 : Int32) - x1) r80 (fun r93 => zp_X7_power x1 (x4 - r80) (fun r102 => ∀ v107 : Int64, v107 = x5 + (r93 * r102) → (∀ v109 : Int32, v109 = x7 + (1 : Int32) → (K49 v107 v109 I70 L70))) I70 L70) I70 L70) I70 L70)) I L))
set_option maxHeartbeats 4000000 in
set_option maxRecDepth 100000 in
theorem zq_X7_lost_49b {p : Program} {l : Launch} {e : Env} {s : State} {m : MethodId} {args : Array Value} {below : List Frame} {meth : Method} {c : Code} {D : va_G} {ca : Nat → ClassId} {A : Nat → Prop} {a : Nat → Nat} {K49 : Int64 → Int32 → zz_I → zz_L → Prop} {P : Int32 → zz_I → zz_L → Prop} {I : zz_I} {L : zz_L} {x1 : Int32} {x2 : Int32} {x3 : Int32} {x4 : Int32} {x5 : Int64} {x7 : Int32} (X : zz_X p s m meth c cX7_lost RX7 (some .int) 9) (hA : ∀ q, s.heap.size ≤ q → A q)  (hK49 : ∀ (y5 : Int64) (y7 : Int32) (I8 : zz_I) (L8 : zz_L), K49 y5 y7 I8 L8 → zz_Go p l e ({ frames := 4, cells := 0, slots := 0, locals := 99 } : Room) s m args below meth c 0 0 (MQ below (zz_Qi D ca zz_dC A a P) args s 0 0 A) D ca zz_dC A 9 49 a [] [(0, .ref (a 0)), (1, .int x1), (2, .int x2), (3, .int x3), (4, .int x4), (5, .long y5), (7, .int y7)] I8 L8) (h : zp_X7_lost_49b K49 P x1 x2 x3 x4 x5 x7 I L) : zz_Go p l e ({ frames := 4, cells := 0, slots := 0, locals := 99 } : Room) s m args below meth c 0 0 (MQ below (zz_Qi D ca zz_dC A a P) args s 0 0 A) D ca zz_dC A 9 49 a [] [(0, .ref (a 0)), (1, .int x1), (2, .int x2), (3, .int x3), (4, .int x4), (5, .long x5), (7, .int x7)] I L := by
  obtain ⟨hx, hb, hml, hown, zw, hr, hlocks⟩ := id X
  intro H locs ls hB hl
  unfold zp_X7_lost_49b at h
  refine lv_iload hx hb dX7_lost_49 (lv_at hl 6 rfl) ?_
  refine lv_iload_n hx hb dX7_lost_51 rfl (lv_at hl 3 rfl) ?_
  refine lv_icmp_gt (tgt := 115) hx hb dX7_lost_52 (by decide) (fun c52 => ?_) (fun c52 => ?_)
  · have h := h.1 c52
    refine lv_lload hx hb dX7_lost_115 (lv_at hl 5 rfl) ?_
    refine lv_bipush (v := (10 : Int32)) hx hb dX7_lost_117 (by decide) ?_
    refine lv_iload hx hb dX7_lost_119 (lv_at hl 4 rfl) ?_
    refine zz_golp hB hA (zz_runS (As := [.int (10 : Int32), .int x4]) (rest := [.long x5]) hx hb hml hown zw hB zM_X7_256 (zc_X7_power l D ca a I L H.size h) rfl hl.1 rfl (Nat.le_of_ble_eq_true rfl) rfl rfl ⟨Nat.le_of_ble_eq_true rfl, Nat.le_of_ble_eq_true rfl⟩ dX7_lost_121 ⟨Nat.le_of_ble_eq_true rfl, Nat.le_of_ble_eq_true rfl⟩) (fun r121 H locs h hB => ?_)
    refine lv_iload_n hx hb dX7_lost_124 rfl (lv_at hl 2 rfl) ?_
    refine zz_golp hB hA (zz_runS (As := [.long x5, .long r121, .int x2]) (rest := []) hx hb hml hown zw hB zM_X7_239 (zc_X7_lowestTerms l D ca a I L H.size h) rfl hl.1 rfl (Nat.le_of_ble_eq_true rfl) rfl rfl ⟨Nat.le_of_ble_eq_true rfl, Nat.le_of_ble_eq_true rfl⟩ dX7_lost_125 ⟨Nat.le_of_ble_eq_true rfl, Nat.le_of_ble_eq_true rfl⟩) (fun r125 H locs h hB => ?_)
    refine lv_l2i (v := r125.toInt32) hx hb dX7_lost_128 rfl ?_
    exact zz_iret hx hb hr hlocks hB h dX7_lost_129
  · have h := h.2 c52
    refine lv_iload hx hb dX7_lost_55 (lv_at hl 6 rfl) ?_
    refine lv_iload_n hx hb dX7_lost_57 rfl (lv_at hl 3 rfl) ?_
    refine lv_iconst (v := (-1 : Int32)) hx hb dX7_lost_58 (by decide) ?_
    refine lv_ixor hx hb dX7_lost_59 ?_
    refine lv_iand hx hb dX7_lost_60 ?_
    refine lv_if_ne (tgt := 109) hx hb dX7_lost_61 (by decide) (fun c61 => ?_) (fun c61 => ?_)
    · have h := h.1 c61
      obtain ⟨v109, ev109⟩ : ∃ z : Int32, z = x7 + (1 : Int32) := ⟨_, rfl⟩
      have h := h v109 ev109
      refine lv_iinc (v := v109) (lv' := [(7, .int v109), (0, .ref (a 0)), (1, .int x1), (2, .int x2), (3, .int x3), (4, .int x4), (5, .long x5)]) hx hb dX7_lost_109 hl (k := 6) rfl (by rw [ev109]; rfl) (by decide) rfl (fun ls hl => ?_)
      refine lv_goto (tgt := 49) hx hb dX7_lost_112 (by decide) ?_
      exact hK49 _ _ _ _ h H locs ls hB (lv_sub hl [1, 2, 3, 4, 5, 6, 0] rfl)
    · have h := h.2 c61
      refine lv_aload_n hx hb dX7_lost_64 rfl (lv_at hl 0 rfl) ?_
      refine zz_getr (k' := 37) hx hb hown zw hB zF_X7_50 zdC_0 rfl rfl dX7_lost_65 ?_
      refine lv_iload hx hb dX7_lost_68 (lv_at hl 6 rfl) ?_
      refine zz_gol hB hA (zz_runV (As := [.int x7]) (rest := []) hx hb hml hown zw hB zM_X7_253 (zc_X0_countFrom l D ca a I L H.size h) zdC_37 rfl rfl hl.1 rfl (Nat.le_of_ble_eq_true rfl) rfl rfl ⟨Nat.le_of_ble_eq_true rfl, Nat.le_of_ble_eq_true rfl⟩ dX7_lost_70 ⟨Nat.le_of_ble_eq_true rfl, Nat.le_of_ble_eq_true rfl⟩) (fun r70 I70 L70 H locs h hB => ?_)
      refine lv_lconst (v := (0 : Int64)) hx hb dX7_lost_73 (by decide) ?_
      refine zz_l_le (tgt := 109) hx hb dX7_lost_74 dX7_lost_75 (by decide) (fun c74 => ?_) (fun c74 => ?_)
      · have h := h.1 c74
        obtain ⟨v109, ev109⟩ : ∃ z : Int32, z = x7 + (1 : Int32) := ⟨_, rfl⟩
        have h := h v109 ev109
        refine lv_iinc (v := v109) (lv' := [(7, .int v109), (0, .ref (a 0)), (1, .int x1), (2, .int x2), (3, .int x3), (4, .int x4), (5, .long x5)]) hx hb dX7_lost_109 hl (k := 6) rfl (by rw [ev109]; rfl) (by decide) rfl (fun ls hl => ?_)
        refine lv_goto (tgt := 49) hx hb dX7_lost_112 (by decide) ?_
        exact hK49 _ _ _ _ h H locs ls hB (lv_sub hl [1, 2, 3, 4, 5, 6, 0] rfl)
      · have h := h.2 c74
        refine lv_iload hx hb dX7_lost_78 (lv_at hl 6 rfl) ?_
        refine zz_goip hB hA (zz_runS (As := [.int x7]) (rest := []) hx hb hml hown zw hB zM_X7_243 (zc_J6_bitCount_0f7a4 l D ca a I70 L70 H.size h) rfl hl.1 rfl (Nat.le_of_ble_eq_true rfl) rfl rfl ⟨Nat.le_of_ble_eq_true rfl, Nat.le_of_ble_eq_true rfl⟩ dX7_lost_80 ⟨Nat.le_of_ble_eq_true rfl, Nat.le_of_ble_eq_true rfl⟩) (fun r80 H locs h hB => ?_)
        refine lv_istore (lv' := [(8, .int r80), (0, .ref (a 0)), (1, .int x1), (2, .int x2), (3, .int x3), (4, .int x4), (5, .long x5), (7, .int x7)]) hx hb dX7_lost_83 hl (by decide) rfl (fun ls hl => ?_)
        refine lv_lload hx hb dX7_lost_85 (lv_at hl 6 rfl) ?_
        refine lv_bipush (v := (10 : Int32)) hx hb dX7_lost_87 (by decide) ?_
        refine lv_iload_n hx hb dX7_lost_89 rfl (lv_at hl 2 rfl) ?_
        refine lv_isub hx hb dX7_lost_90 ?_
        refine lv_iload hx hb dX7_lost_91 (lv_at hl 0 rfl) ?_
        refine zz_golp hB hA (zz_runS (As := [.int ((10 : Int32) - x1), .int r80]) (rest := [.long x5]) hx hb hml hown zw hB zM_X7_256 (zc_X7_power l D ca a I70 L70 H.size h) rfl hl.1 rfl (Nat.le_of_ble_eq_true rfl) rfl rfl ⟨Nat.le_of_ble_eq_true rfl, Nat.le_of_ble_eq_true rfl⟩ dX7_lost_93 ⟨Nat.le_of_ble_eq_true rfl, Nat.le_of_ble_eq_true rfl⟩) (fun r93 H locs h hB => ?_)
        refine lv_iload_n hx hb dX7_lost_96 rfl (lv_at hl 2 rfl) ?_
        refine lv_iload hx hb dX7_lost_97 (lv_at hl 5 rfl) ?_
        refine lv_iload hx hb dX7_lost_99 (lv_at hl 0 rfl) ?_
        refine lv_isub hx hb dX7_lost_101 ?_
        refine zz_golp hB hA (zz_runS (As := [.int x1, .int (x4 - r80)]) (rest := [.long r93, .long x5]) hx hb hml hown zw hB zM_X7_256 (zc_X7_power l D ca a I70 L70 H.size h) rfl hl.1 rfl (Nat.le_of_ble_eq_true rfl) rfl rfl ⟨Nat.le_of_ble_eq_true rfl, Nat.le_of_ble_eq_true rfl⟩ dX7_lost_102 ⟨Nat.le_of_ble_eq_true rfl, Nat.le_of_ble_eq_true rfl⟩) (fun r102 H locs h hB => ?_)
        refine lv_lmul hx hb dX7_lost_105 ?_
        refine lv_ladd hx hb dX7_lost_106 ?_
        refine lv_topl (fun v107 ev107 => ?_)
        have h := h v107 ev107
        refine lv_lstore (lv' := [(5, .long v107), (8, .int r80), (0, .ref (a 0)), (1, .int x1), (2, .int x2), (3, .int x3), (4, .int x4), (7, .int x7)]) hx hb dX7_lost_107 hl (by decide) rfl (fun ls hl => ?_)
        obtain ⟨v109, ev109⟩ : ∃ z : Int32, z = x7 + (1 : Int32) := ⟨_, rfl⟩
        have h := h v109 ev109
        refine lv_iinc (v := v109) (lv' := [(7, .int v109), (5, .long v107), (8, .int r80), (0, .ref (a 0)), (1, .int x1), (2, .int x2), (3, .int x3), (4, .int x4)]) hx hb dX7_lost_109 hl (k := 7) rfl (by rw [ev109]; rfl) (by decide) rfl (fun ls hl => ?_)
        refine lv_goto (tgt := 49) hx hb dX7_lost_112 (by decide) ?_
        exact hK49 _ _ _ _ h H locs ls hB (lv_sub hl [3, 4, 5, 6, 7, 1, 0] rfl)
def zp_X7_lost_49  (P : Int32 → zz_I → zz_L → Prop) (x1 : Int32) (x2 : Int32) (x3 : Int32) (x4 : Int32) (x5 : Int64) (x7 : Int32) (I : zz_I) (L : zz_L) : Prop := ∃ (Inv : Int64 → Int32 → zz_I → zz_L → Prop) (μ : Int64 → Int32 → zz_I → zz_L → Nat), Inv x5 x7 I L ∧ ∀ (y5 : Int64) (y7 : Int32) (I8 : zz_I) (L8 : zz_L), Inv y5 y7 I8 L8 → zp_X7_lost_49b  (fun z5 z7 I7 L7 => Inv z5 z7 I7 L7 ∧ μ z5 z7 I7 L7 < μ y5 y7 I8 L8) P x1 x2 x3 x4 y5 y7 I8 L8
set_option maxHeartbeats 4000000 in
set_option maxRecDepth 100000 in
theorem zq_X7_lost_49 {p : Program} {l : Launch} {e : Env} {s : State} {m : MethodId} {args : Array Value} {below : List Frame} {meth : Method} {c : Code} {D : va_G} {ca : Nat → ClassId} {A : Nat → Prop} {a : Nat → Nat}  {P : Int32 → zz_I → zz_L → Prop} {I : zz_I} {L : zz_L} {x1 : Int32} {x2 : Int32} {x3 : Int32} {x4 : Int32} {x5 : Int64} {x7 : Int32} (X : zz_X p s m meth c cX7_lost RX7 (some .int) 9) (hA : ∀ q, s.heap.size ≤ q → A q)   (h : zp_X7_lost_49  P x1 x2 x3 x4 x5 x7 I L) : zz_Go p l e ({ frames := 4, cells := 0, slots := 0, locals := 99 } : Room) s m args below meth c 0 0 (MQ below (zz_Qi D ca zz_dC A a P) args s 0 0 A) D ca zz_dC A 9 49 a [] [(0, .ref (a 0)), (1, .int x1), (2, .int x2), (3, .int x3), (4, .int x4), (5, .long x5), (7, .int x7)] I L := by
  unfold zp_X7_lost_49 at h
  obtain ⟨Inv, μ, hv0, hs⟩ := h
  have key : ∀ (n9 : Nat) (y5 : Int64) (y7 : Int32) (I8 : zz_I) (L8 : zz_L), μ y5 y7 I8 L8 < n9 → Inv y5 y7 I8 L8 → zz_Go p l e ({ frames := 4, cells := 0, slots := 0, locals := 99 } : Room) s m args below meth c 0 0 (MQ below (zz_Qi D ca zz_dC A a P) args s 0 0 A) D ca zz_dC A 9 49 a [] [(0, .ref (a 0)), (1, .int x1), (2, .int x2), (3, .int x3), (4, .int x4), (5, .long y5), (7, .int y7)] I8 L8 := by
    intro n9
    induction n9 with
    | zero => intro y5 y7 I8 L8 hn; exact absurd hn (Nat.not_lt_zero _)
    | succ n9 ih =>
      intro y5 y7 I8 L8 hn hi
      exact zq_X7_lost_49b (K49 := (fun z5 z7 I7 L7 => Inv z5 z7 I7 L7 ∧ μ z5 z7 I7 L7 < μ y5 y7 I8 L8)) X hA   (fun z5 z7 I7 L7 hz => ih z5 z7 I7 L7 (Nat.lt_of_lt_of_le hz.2 (Nat.le_of_lt_succ hn)) hz.1) (hs y5 y7 I8 L8 hi)
  exact key _ x5 x7 I L (Nat.lt_succ_self _) hv0
def zp_X7_lost (x1 : Int32) (x2 : Int32) (P : Int32 → zz_I → zz_L → Prop) (I : zz_I) (L : zz_L) : Prop := (x1 < 0 → P (-2 : Int32) I L) ∧ (¬ x1 < 0 → (x1 ≤ (10 : Int32) → zp_X0_countAll 21 (fun r25 I25 L25 => ∀ v36 : Int32, v36 = I25 37 8 → (zp_J6_bitCount_0f7a4 v36 (fun r38 => zp_X7_lost_49 P x1 x2 v36 r38 (0 : Int64) (0 : Int32) I25 L25) I25 L25)) I L) ∧ (¬ x1 ≤ (10 : Int32) → P (-2 : Int32) I L))
set_option maxHeartbeats 4000000 in
set_option maxRecDepth 100000 in
theorem zq_X7_lost {p : Program} {l : Launch} {e : Env} {s : State} {m : MethodId} {args : Array Value} {below : List Frame} {meth : Method} {c : Code} {D : va_G} {ca : Nat → ClassId} {A : Nat → Prop} {a : Nat → Nat}  {P : Int32 → zz_I → zz_L → Prop} {I : zz_I} {L : zz_L} {x1 : Int32} {x2 : Int32} (X : zz_X p s m meth c cX7_lost RX7 (some .int) 9) (hA : ∀ q, s.heap.size ≤ q → A q)   (h : zp_X7_lost x1 x2 P I L) : zz_Go p l e ({ frames := 4, cells := 0, slots := 0, locals := 99 } : Room) s m args below meth c 0 0 (MQ below (zz_Qi D ca zz_dC A a P) args s 0 0 A) D ca zz_dC A 9 0 a [] [(0, .ref (a 0)), (1, .int x1), (2, .int x2)] I L := by
  obtain ⟨hx, hb, hml, hown, zw, hr, hlocks⟩ := id X
  intro H locs ls hB hl
  unfold zp_X7_lost at h
  refine lv_iload_n hx hb dX7_lost_0 rfl (lv_at hl 1 rfl) ?_
  refine lv_if_lt (tgt := 10) hx hb dX7_lost_1 (by decide) (fun c1 => ?_) (fun c1 => ?_)
  · have h := h.1 c1
    refine lv_bipush (v := (-2 : Int32)) hx hb dX7_lost_10 (by decide) ?_
    exact zz_iret hx hb hr hlocks hB h dX7_lost_12
  · have h := h.2 c1
    refine lv_iload_n hx hb dX7_lost_4 rfl (lv_at hl 1 rfl) ?_
    refine lv_bipush (v := (10 : Int32)) hx hb dX7_lost_5 (by decide) ?_
    refine lv_icmp_le (tgt := 13) hx hb dX7_lost_7 (by decide) (fun c7 => ?_) (fun c7 => ?_)
    · have h := h.1 c7
      refine lv_aload_n hx hb dX7_lost_13 rfl (lv_at hl 0 rfl) ?_
      refine zz_getr (k' := 37) hx hb hown zw hB zF_X7_50 zdC_0 rfl rfl dX7_lost_14 ?_
      refine lv_aload_n hx hb dX7_lost_17 rfl (lv_at hl 0 rfl) ?_
      refine zz_getr (k' := 14) hx hb hown zw hB zF_X7_19 zdC_0 rfl rfl dX7_lost_18 ?_
      refine lv_aload_n hx hb dX7_lost_21 rfl (lv_at hl 0 rfl) ?_
      refine zz_getr (k' := 21) hx hb hown zw hB zF_X7_26 zdC_0 rfl rfl dX7_lost_22 ?_
      refine zz_gol hB hA (zz_runV (As := [.ref (a 14), .ref (a 21)]) (rest := []) hx hb hml hown zw hB zM_X7_174 (zc_X0_countAll l D ca a I L H.size zz_isT_21 h) zdC_37 rfl rfl hl.1 rfl (Nat.le_of_ble_eq_true rfl) rfl rfl ⟨Nat.le_of_ble_eq_true rfl, Nat.le_of_ble_eq_true rfl⟩ dX7_lost_25 ⟨Nat.le_of_ble_eq_true rfl, Nat.le_of_ble_eq_true rfl⟩) (fun r25 I25 L25 H locs h hB => ?_)
      refine lv_pop2_2 hx hb dX7_lost_28 rfl ?_
      refine lv_aload_n hx hb dX7_lost_29 rfl (lv_at hl 0 rfl) ?_
      refine zz_getr (k' := 37) hx hb hown zw hB zF_X7_50 zdC_0 rfl rfl dX7_lost_30 ?_
      refine zz_geti hx hb hown zw hB zF_X7_236 zdC_37 rfl dX7_lost_33 ?_
      refine lv_topi (fun v36 ev36 => ?_)
      have h := h v36 ev36
      refine lv_istore_n (lv' := [(3, .int v36), (0, .ref (a 0)), (1, .int x1), (2, .int x2)]) hx hb dX7_lost_36 rfl hl (by decide) rfl (fun ls hl => ?_)
      refine lv_iload_n hx hb dX7_lost_37 rfl (lv_at hl 0 rfl) ?_
      refine zz_goip hB hA (zz_runS (As := [.int v36]) (rest := []) hx hb hml hown zw hB zM_X7_243 (zc_J6_bitCount_0f7a4 l D ca a I25 L25 H.size h) rfl hl.1 rfl (Nat.le_of_ble_eq_true rfl) rfl rfl ⟨Nat.le_of_ble_eq_true rfl, Nat.le_of_ble_eq_true rfl⟩ dX7_lost_38 ⟨Nat.le_of_ble_eq_true rfl, Nat.le_of_ble_eq_true rfl⟩) (fun r38 H locs h hB => ?_)
      refine lv_istore (lv' := [(4, .int r38), (3, .int v36), (0, .ref (a 0)), (1, .int x1), (2, .int x2)]) hx hb dX7_lost_41 hl (by decide) rfl (fun ls hl => ?_)
      refine lv_lconst (v := (0 : Int64)) hx hb dX7_lost_43 (by decide) ?_
      refine lv_lstore (lv' := [(5, .long (0 : Int64)), (4, .int r38), (3, .int v36), (0, .ref (a 0)), (1, .int x1), (2, .int x2)]) hx hb dX7_lost_44 hl (by decide) rfl (fun ls hl => ?_)
      refine lv_iconst (v := (0 : Int32)) hx hb dX7_lost_46 (by decide) ?_
      refine lv_istore (lv' := [(7, .int (0 : Int32)), (5, .long (0 : Int64)), (4, .int r38), (3, .int v36), (0, .ref (a 0)), (1, .int x1), (2, .int x2)]) hx hb dX7_lost_47 hl (by decide) rfl (fun ls hl => ?_)
      exact zq_X7_lost_49 X hA  h H locs ls hB (lv_sub hl [4, 5, 6, 3, 2, 1, 0] rfl)
    · have h := h.2 c7
      refine lv_bipush (v := (-2 : Int32)) hx hb dX7_lost_10 (by decide) ?_
      exact zz_iret hx hb hr hlocks hB h dX7_lost_12
theorem zc_X7_lost (l : Launch) (D : va_G) (ca : Nat → ClassId) (a : Nat → Nat) (I : zz_I) (L : zz_L) (sz : Nat) {x1 : Int32} {x2 : Int32} {P : Int32 → zz_I → zz_L → Prop}  (h : zp_X7_lost x1 x2 P I L) : Met l yX7_lost [.code yX7_lost cX7_lost 9 (some .int)] ({ frames := 4, cells := 0, slots := 0, locals := 99 } : Room) (zz_Pre D ca zz_dC [.ref (a 0), .int x1, .int x2] a I L sz) (zz_Qi D ca zz_dC (zz_A ca zz_dC a I L sz) a P) 0 0 (zz_A ca zz_dC a I L sz) :=
  zz_start (by decide) (Nat.le_of_ble_eq_true rfl) (fun p e s m below meth c X hsz hA => zq_X7_lost X hA  h)
def zp_X7_readings  (P : Int64 → zz_I → zz_L → Prop) (I : zz_I) (L : zz_L) : Prop := zp_X0_countAll 21 (fun r12 I12 L12 => P r12 I12 L12) I L
set_option maxHeartbeats 4000000 in
set_option maxRecDepth 100000 in
theorem zq_X7_readings {p : Program} {l : Launch} {e : Env} {s : State} {m : MethodId} {args : Array Value} {below : List Frame} {meth : Method} {c : Code} {D : va_G} {ca : Nat → ClassId} {A : Nat → Prop} {a : Nat → Nat}  {P : Int64 → zz_I → zz_L → Prop} {I : zz_I} {L : zz_L}  (X : zz_X p s m meth c cX7_readings RX7 (some .long) 1) (hA : ∀ q, s.heap.size ≤ q → A q)   (h : zp_X7_readings  P I L) : zz_Go p l e ({ frames := 4, cells := 0, slots := 0, locals := 99 } : Room) s m args below meth c 0 0 (MQ below (zz_Ql D ca zz_dC A a P) args s 0 0 A) D ca zz_dC A 1 0 a [] [(0, .ref (a 0))] I L := by
  obtain ⟨hx, hb, hml, hown, zw, hr, hlocks⟩ := id X
  intro H locs ls hB hl
  unfold zp_X7_readings at h
  refine lv_aload_n hx hb dX7_readings_0 rfl (lv_at hl 0 rfl) ?_
  refine zz_getr (k' := 37) hx hb hown zw hB zF_X7_50 zdC_0 rfl rfl dX7_readings_1 ?_
  refine lv_aload_n hx hb dX7_readings_4 rfl (lv_at hl 0 rfl) ?_
  refine zz_getr (k' := 14) hx hb hown zw hB zF_X7_19 zdC_0 rfl rfl dX7_readings_5 ?_
  refine lv_aload_n hx hb dX7_readings_8 rfl (lv_at hl 0 rfl) ?_
  refine zz_getr (k' := 21) hx hb hown zw hB zF_X7_26 zdC_0 rfl rfl dX7_readings_9 ?_
  refine zz_gol hB hA (zz_runV (As := [.ref (a 14), .ref (a 21)]) (rest := []) hx hb hml hown zw hB zM_X7_174 (zc_X0_countAll l D ca a I L H.size zz_isT_21 h) zdC_37 rfl rfl hl.1 rfl (Nat.le_of_ble_eq_true rfl) rfl rfl ⟨Nat.le_of_ble_eq_true rfl, Nat.le_of_ble_eq_true rfl⟩ dX7_readings_12 ⟨Nat.le_of_ble_eq_true rfl, Nat.le_of_ble_eq_true rfl⟩) (fun r12 I12 L12 H locs h hB => ?_)
  exact zz_lret hx hb hr hlocks hB h dX7_readings_15
theorem zc_X7_readings (l : Launch) (D : va_G) (ca : Nat → ClassId) (a : Nat → Nat) (I : zz_I) (L : zz_L) (sz : Nat)  {P : Int64 → zz_I → zz_L → Prop}  (h : zp_X7_readings  P I L) : Met l yX7_readings [.code yX7_readings cX7_readings 1 (some .long)] ({ frames := 4, cells := 0, slots := 0, locals := 99 } : Room) (zz_Pre D ca zz_dC [.ref (a 0)] a I L sz) (zz_Ql D ca zz_dC (zz_A ca zz_dC a I L sz) a P) 0 0 (zz_A ca zz_dC a I L sz) :=
  zz_start (by decide) (Nat.le_of_ble_eq_true rfl) (fun p e s m below meth c X hsz hA => zq_X7_readings X hA  h)
def zp_X7_rule (x1 : Int32) (x2 : Int32) (P : Int32 → Prop) (I : zz_I) (L : zz_L) : Prop := zp_X7_isKind x1 (fun r1 => (r1 = 0 → P (-2 : Int32)) ∧ (¬ r1 = 0 → zp_X7_isKind x2 (fun r8 => (r8 = 0 → P (-2 : Int32)) ∧ (¬ r8 = 0 → vp_in ((x1 * (3 : Int32)) + x2) 9 ∧ (P (I 23 ((x1 * (3 : Int32)) + x2).toNatClampNeg)))) I L)) I L
set_option maxHeartbeats 4000000 in
set_option maxRecDepth 100000 in
theorem zq_X7_rule {p : Program} {l : Launch} {e : Env} {s : State} {m : MethodId} {args : Array Value} {below : List Frame} {meth : Method} {c : Code} {D : va_G} {ca : Nat → ClassId} {A : Nat → Prop} {a : Nat → Nat}  {P : Int32 → Prop} {I : zz_I} {L : zz_L} {x1 : Int32} {x2 : Int32} (X : zz_X p s m meth c cX7_rule RX7 (some .int) 3) (hA : ∀ q, s.heap.size ≤ q → A q)   (h : zp_X7_rule x1 x2 P I L) : zz_Go p l e ({ frames := 1, cells := 0, slots := 0, locals := 20 } : Room) s m args below meth c 0 0 (MQ below (zz_Qi D ca zz_dC A a (fun r I9 L9 => P r ∧ I9 = I ∧ L9 = L)) args s 0 0 A) D ca zz_dC A 3 0 a [] [(0, .ref (a 0)), (1, .int x1), (2, .int x2)] I L := by
  obtain ⟨hx, hb, hml, hown, zw, hr, hlocks⟩ := id X
  intro H locs ls hB hl
  unfold zp_X7_rule at h
  refine lv_iload_n hx hb dX7_rule_0 rfl (lv_at hl 1 rfl) ?_
  refine zz_goip hB hA (zz_runS (As := [.int x1]) (rest := []) hx hb hml hown zw hB zM_X7_138 (zc_X7_isKind l D ca a I L H.size h) rfl hl.1 rfl (Nat.le_of_ble_eq_true rfl) rfl rfl ⟨Nat.le_of_ble_eq_true rfl, Nat.le_of_ble_eq_true rfl⟩ dX7_rule_1 ⟨Nat.le_of_ble_eq_true rfl, Nat.le_of_ble_eq_true rfl⟩) (fun r1 H locs h hB => ?_)
  refine lv_if_eq (tgt := 30) hx hb dX7_rule_4 (by decide) (fun c4 => ?_) (fun c4 => ?_)
  · have h := h.1 c4
    refine lv_bipush (v := (-2 : Int32)) hx hb dX7_rule_30 (by decide) ?_
    exact zz_iret hx hb hr hlocks hB ⟨h, rfl, rfl⟩ dX7_rule_32
  · have h := h.2 c4
    refine lv_iload_n hx hb dX7_rule_7 rfl (lv_at hl 2 rfl) ?_
    refine zz_goip hB hA (zz_runS (As := [.int x2]) (rest := []) hx hb hml hown zw hB zM_X7_138 (zc_X7_isKind l D ca a I L H.size h) rfl hl.1 rfl (Nat.le_of_ble_eq_true rfl) rfl rfl ⟨Nat.le_of_ble_eq_true rfl, Nat.le_of_ble_eq_true rfl⟩ dX7_rule_8 ⟨Nat.le_of_ble_eq_true rfl, Nat.le_of_ble_eq_true rfl⟩) (fun r8 H locs h hB => ?_)
    refine lv_if_eq (tgt := 30) hx hb dX7_rule_11 (by decide) (fun c11 => ?_) (fun c11 => ?_)
    · have h := h.1 c11
      refine lv_bipush (v := (-2 : Int32)) hx hb dX7_rule_30 (by decide) ?_
      exact zz_iret hx hb hr hlocks hB ⟨h, rfl, rfl⟩ dX7_rule_32
    · have h := h.2 c11
      refine lv_aload_n hx hb dX7_rule_14 rfl (lv_at hl 0 rfl) ?_
      refine zz_getr (k' := 21) hx hb hown zw hB zF_X7_26 zdC_0 rfl rfl dX7_rule_15 ?_
      refine zz_getr (k' := 23) hx hb hown zw hB zF_X7_141 zdC_21 rfl rfl dX7_rule_18 ?_
      refine lv_iload_n hx hb dX7_rule_21 rfl (lv_at hl 1 rfl) ?_
      refine lv_iconst (v := (3 : Int32)) hx hb dX7_rule_22 (by decide) ?_
      refine lv_imul hx hb dX7_rule_23 ?_
      refine lv_iload_n hx hb dX7_rule_24 rfl (lv_at hl 2 rfl) ?_
      refine lv_iadd hx hb dX7_rule_25 ?_
      obtain ⟨hi26, h⟩ := h
      refine zz_iald hx hb hB zdC_23 hi26 dX7_rule_26 ?_
      refine lv_goto (tgt := 32) hx hb dX7_rule_27 (by decide) ?_
      exact zz_iret hx hb hr hlocks hB ⟨h, rfl, rfl⟩ dX7_rule_32
theorem zc_X7_rule (l : Launch) (D : va_G) (ca : Nat → ClassId) (a : Nat → Nat) (I : zz_I) (L : zz_L) (sz : Nat) {x1 : Int32} {x2 : Int32} {P : Int32 → Prop}  (h : zp_X7_rule x1 x2 P I L) : Met l yX7_rule [.code yX7_rule cX7_rule 3 (some .int)] ({ frames := 1, cells := 0, slots := 0, locals := 20 } : Room) (zz_Pre D ca zz_dC [.ref (a 0), .int x1, .int x2] a I L sz) (zz_Qi D ca zz_dC (zz_A ca zz_dC a I L sz) a (fun r I9 L9 => P r ∧ I9 = I ∧ L9 = L)) 0 0 (zz_A ca zz_dC a I L sz) :=
  zz_start (by decide) (Nat.le_of_ble_eq_true rfl) (fun p e s m below meth c X hsz hA => zq_X7_rule X hA  h)
def zp_X7_see_67  (P : Int32 → zz_I → zz_L → Prop) (s0 : Int32) (s1 : Int32) (s2 : Int32) (I : zz_I) (L : zz_L) : Prop := zp_X5_append s2 s1 s0 (fun I67 L67 => P (I67 33 3) I67 L67) I L
set_option maxHeartbeats 4000000 in
set_option maxRecDepth 100000 in
theorem zq_X7_see_67 {p : Program} {l : Launch} {e : Env} {s : State} {m : MethodId} {args : Array Value} {below : List Frame} {meth : Method} {c : Code} {D : va_G} {ca : Nat → ClassId} {A : Nat → Prop} {a : Nat → Nat}  {P : Int32 → zz_I → zz_L → Prop} {I : zz_I} {L : zz_L} {s0 : Int32} {s1 : Int32} {s2 : Int32} (X : zz_X p s m meth c cX7_see RX7 (some .int) 4) (hA : ∀ q, s.heap.size ≤ q → A q)   (h : zp_X7_see_67  P s0 s1 s2 I L) : zz_Go p l e ({ frames := 1, cells := 0, slots := 0, locals := 23 } : Room) s m args below meth c 0 0 (MQ below (zz_Qi D ca zz_dC A a P) args s 0 0 A) D ca zz_dC A 4 67 a [.int s0, .int s1, .int s2, .ref (a 33)] [(0, .ref (a 0))] I L := by
  obtain ⟨hx, hb, hml, hown, zw, hr, hlocks⟩ := id X
  intro H locs ls hB hl
  unfold zp_X7_see_67 at h
  refine zz_gov hB hA (zz_runV (As := [.int s2, .int s1, .int s0]) (rest := []) hx hb hml hown zw hB zM_X7_223 (zc_X5_append l D ca a I L H.size h) zdC_33 rfl rfl hl.1 rfl (Nat.le_of_ble_eq_true rfl) rfl rfl ⟨Nat.le_of_ble_eq_true rfl, Nat.le_of_ble_eq_true rfl⟩ dX7_see_67 ⟨Nat.le_of_ble_eq_true rfl, Nat.le_of_ble_eq_true rfl⟩) (fun I67 L67 H locs h hB => ?_)
  refine lv_aload_n hx hb dX7_see_70 rfl (lv_at hl 0 rfl) ?_
  refine zz_getr (k' := 33) hx hb hown zw hB zF_X7_43 zdC_0 rfl rfl dX7_see_71 ?_
  refine zz_geti hx hb hown zw hB zF_X7_220 zdC_33 rfl dX7_see_74 ?_
  exact zz_iret hx hb hr hlocks hB h dX7_see_77
def zp_X7_see_36  (P : Int32 → zz_I → zz_L → Prop) (x1 : Int32) (x2 : Int32) (x3 : Int32) (I : zz_I) (L : zz_L) : Prop := ((I 33 3) < (6 : Int32) → (¬ x3 = (1 : Int32) → zp_X7_see_67 P (0 : Int32) x2 x1 I L) ∧ (x3 = (1 : Int32) → zp_X7_see_67 P (1 : Int32) x2 x1 I L)) ∧ (¬ (I 33 3) < (6 : Int32) → P (-4 : Int32) I L)
set_option maxHeartbeats 4000000 in
set_option maxRecDepth 100000 in
theorem zq_X7_see_36 {p : Program} {l : Launch} {e : Env} {s : State} {m : MethodId} {args : Array Value} {below : List Frame} {meth : Method} {c : Code} {D : va_G} {ca : Nat → ClassId} {A : Nat → Prop} {a : Nat → Nat}  {P : Int32 → zz_I → zz_L → Prop} {I : zz_I} {L : zz_L} {x1 : Int32} {x2 : Int32} {x3 : Int32} (X : zz_X p s m meth c cX7_see RX7 (some .int) 4) (hA : ∀ q, s.heap.size ≤ q → A q)   (h : zp_X7_see_36  P x1 x2 x3 I L) : zz_Go p l e ({ frames := 1, cells := 0, slots := 0, locals := 23 } : Room) s m args below meth c 0 0 (MQ below (zz_Qi D ca zz_dC A a P) args s 0 0 A) D ca zz_dC A 4 36 a [] [(0, .ref (a 0)), (1, .int x1), (2, .int x2), (3, .int x3)] I L := by
  obtain ⟨hx, hb, hml, hown, zw, hr, hlocks⟩ := id X
  intro H locs ls hB hl
  unfold zp_X7_see_36 at h
  refine lv_aload_n hx hb dX7_see_36 rfl (lv_at hl 0 rfl) ?_
  refine zz_getr (k' := 33) hx hb hown zw hB zF_X7_43 zdC_0 rfl rfl dX7_see_37 ?_
  refine zz_geti hx hb hown zw hB zF_X7_220 zdC_33 rfl dX7_see_40 ?_
  refine lv_bipush (v := (6 : Int32)) hx hb dX7_see_43 (by decide) ?_
  refine lv_icmp_lt (tgt := 51) hx hb dX7_see_45 (by decide) (fun c45 => ?_) (fun c45 => ?_)
  · have h := h.1 c45
    refine lv_aload_n hx hb dX7_see_51 rfl (lv_at hl 0 rfl) ?_
    refine zz_getr (k' := 33) hx hb hown zw hB zF_X7_43 zdC_0 rfl rfl dX7_see_52 ?_
    refine lv_iload_n hx hb dX7_see_55 rfl (lv_at hl 1 rfl) ?_
    refine lv_iload_n hx hb dX7_see_56 rfl (lv_at hl 2 rfl) ?_
    refine lv_iload_n hx hb dX7_see_57 rfl (lv_at hl 3 rfl) ?_
    refine lv_iconst (v := (1 : Int32)) hx hb dX7_see_58 (by decide) ?_
    refine lv_icmp_ne (tgt := 66) hx hb dX7_see_59 (by decide) (fun c59 => ?_) (fun c59 => ?_)
    · have h := h.1 c59
      refine lv_iconst (v := (0 : Int32)) hx hb dX7_see_66 (by decide) ?_
      exact zq_X7_see_67 X hA  h H locs ls hB (lv_sub hl [0] rfl)
    · have h := h.2 c59
      refine lv_iconst (v := (1 : Int32)) hx hb dX7_see_62 (by decide) ?_
      refine lv_goto (tgt := 67) hx hb dX7_see_63 (by decide) ?_
      exact zq_X7_see_67 X hA  h H locs ls hB (lv_sub hl [0] rfl)
  · have h := h.2 c45
    refine lv_bipush (v := (-4 : Int32)) hx hb dX7_see_48 (by decide) ?_
    exact zz_iret hx hb hr hlocks hB h dX7_see_50
def zp_X7_see (x1 : Int32) (x2 : Int32) (x3 : Int32) (P : Int32 → zz_I → zz_L → Prop) (I : zz_I) (L : zz_L) : Prop := zp_X2_hasWord x1 (fun r5 => (r5 = 0 → P (-1 : Int32) I L) ∧ (¬ r5 = 0 → zp_X6_hasUnit 21 x2 (fun r16 => (¬ r16 = 0 → (x3 = 0 → zp_X7_see_36 P x1 x2 x3 I L) ∧ (¬ x3 = 0 → (x3 = (1 : Int32) → zp_X7_see_36 P x1 x2 x3 I L) ∧ (¬ x3 = (1 : Int32) → P (-2 : Int32) I L))) ∧ (r16 = 0 → P (-1 : Int32) I L)) I L)) I L
set_option maxHeartbeats 4000000 in
set_option maxRecDepth 100000 in
theorem zq_X7_see {p : Program} {l : Launch} {e : Env} {s : State} {m : MethodId} {args : Array Value} {below : List Frame} {meth : Method} {c : Code} {D : va_G} {ca : Nat → ClassId} {A : Nat → Prop} {a : Nat → Nat}  {P : Int32 → zz_I → zz_L → Prop} {I : zz_I} {L : zz_L} {x1 : Int32} {x2 : Int32} {x3 : Int32} (X : zz_X p s m meth c cX7_see RX7 (some .int) 4) (hA : ∀ q, s.heap.size ≤ q → A q)   (h : zp_X7_see x1 x2 x3 P I L) : zz_Go p l e ({ frames := 1, cells := 0, slots := 0, locals := 23 } : Room) s m args below meth c 0 0 (MQ below (zz_Qi D ca zz_dC A a P) args s 0 0 A) D ca zz_dC A 4 0 a [] [(0, .ref (a 0)), (1, .int x1), (2, .int x2), (3, .int x3)] I L := by
  obtain ⟨hx, hb, hml, hown, zw, hr, hlocks⟩ := id X
  intro H locs ls hB hl
  unfold zp_X7_see at h
  refine lv_aload_n hx hb dX7_see_0 rfl (lv_at hl 0 rfl) ?_
  refine zz_getr (k' := 14) hx hb hown zw hB zF_X7_19 zdC_0 rfl rfl dX7_see_1 ?_
  refine lv_iload_n hx hb dX7_see_4 rfl (lv_at hl 1 rfl) ?_
  refine zz_goip hB hA (zz_runV (As := [.int x1]) (rest := []) hx hb hml hown zw hB zM_X7_105 (zc_X2_hasWord l D ca a I L H.size h) zdC_14 rfl rfl hl.1 rfl (Nat.le_of_ble_eq_true rfl) rfl rfl ⟨Nat.le_of_ble_eq_true rfl, Nat.le_of_ble_eq_true rfl⟩ dX7_see_5 ⟨Nat.le_of_ble_eq_true rfl, Nat.le_of_ble_eq_true rfl⟩) (fun r5 H locs h hB => ?_)
  refine lv_if_eq (tgt := 22) hx hb dX7_see_8 (by decide) (fun c8 => ?_) (fun c8 => ?_)
  · have h := h.1 c8
    refine lv_iconst (v := (-1 : Int32)) hx hb dX7_see_22 (by decide) ?_
    exact zz_iret hx hb hr hlocks hB h dX7_see_23
  · have h := h.2 c8
    refine lv_aload_n hx hb dX7_see_11 rfl (lv_at hl 0 rfl) ?_
    refine zz_getr (k' := 21) hx hb hown zw hB zF_X7_26 zdC_0 rfl rfl dX7_see_12 ?_
    refine lv_iload_n hx hb dX7_see_15 rfl (lv_at hl 2 rfl) ?_
    refine zz_goip hB hA (zz_runV (As := [.int x2]) (rest := []) hx hb hml hown zw hB zM_X7_132 (zc_X6_hasUnit l D ca a I L H.size zz_isT_21 h) zdC_21 rfl rfl hl.1 rfl (Nat.le_of_ble_eq_true rfl) rfl rfl ⟨Nat.le_of_ble_eq_true rfl, Nat.le_of_ble_eq_true rfl⟩ dX7_see_16 ⟨Nat.le_of_ble_eq_true rfl, Nat.le_of_ble_eq_true rfl⟩) (fun r16 H locs h hB => ?_)
    refine lv_if_ne (tgt := 24) hx hb dX7_see_19 (by decide) (fun c19 => ?_) (fun c19 => ?_)
    · have h := h.1 c19
      refine lv_iload_n hx hb dX7_see_24 rfl (lv_at hl 3 rfl) ?_
      refine lv_if_eq (tgt := 36) hx hb dX7_see_25 (by decide) (fun c25 => ?_) (fun c25 => ?_)
      · have h := h.1 c25
        exact zq_X7_see_36 X hA  h H locs ls hB (lv_sub hl [0, 1, 2, 3] rfl)
      · have h := h.2 c25
        refine lv_iload_n hx hb dX7_see_28 rfl (lv_at hl 3 rfl) ?_
        refine lv_iconst (v := (1 : Int32)) hx hb dX7_see_29 (by decide) ?_
        refine lv_icmp_eq (tgt := 36) hx hb dX7_see_30 (by decide) (fun c30 => ?_) (fun c30 => ?_)
        · have h := h.1 c30
          exact zq_X7_see_36 X hA  h H locs ls hB (lv_sub hl [0, 1, 2, 3] rfl)
        · have h := h.2 c30
          refine lv_bipush (v := (-2 : Int32)) hx hb dX7_see_33 (by decide) ?_
          exact zz_iret hx hb hr hlocks hB h dX7_see_35
    · have h := h.2 c19
      refine lv_iconst (v := (-1 : Int32)) hx hb dX7_see_22 (by decide) ?_
      exact zz_iret hx hb hr hlocks hB h dX7_see_23
theorem zc_X7_see (l : Launch) (D : va_G) (ca : Nat → ClassId) (a : Nat → Nat) (I : zz_I) (L : zz_L) (sz : Nat) {x1 : Int32} {x2 : Int32} {x3 : Int32} {P : Int32 → zz_I → zz_L → Prop}  (h : zp_X7_see x1 x2 x3 P I L) : Met l yX7_see [.code yX7_see cX7_see 4 (some .int)] ({ frames := 1, cells := 0, slots := 0, locals := 23 } : Room) (zz_Pre D ca zz_dC [.ref (a 0), .int x1, .int x2, .int x3] a I L sz) (zz_Qi D ca zz_dC (zz_A ca zz_dC a I L sz) a P) 0 0 (zz_A ca zz_dC a I L sz) :=
  zz_start (by decide) (Nat.le_of_ble_eq_true rfl) (fun p e s m below meth c X hsz hA => zq_X7_see X hA  h)
def zp_X7_seed (x1 : Int64) (P : Int64 → zz_I → zz_L → Prop) (I : zz_I) (L : zz_L) : Prop := ∀ v4 : Int64, v4 = L 0 12 → (∀ L7 : zz_L, L7 = zz_up L 0 12 x1 → (P v4 I L7))
set_option maxHeartbeats 4000000 in
set_option maxRecDepth 100000 in
theorem zq_X7_seed {p : Program} {l : Launch} {e : Env} {s : State} {m : MethodId} {args : Array Value} {below : List Frame} {meth : Method} {c : Code} {D : va_G} {ca : Nat → ClassId} {A : Nat → Prop} {a : Nat → Nat}  {P : Int64 → zz_I → zz_L → Prop} {I : zz_I} {L : zz_L} {x1 : Int64} (X : zz_X p s m meth c cX7_seed RX7 (some .long) 5) (hA : ∀ q, s.heap.size ≤ q → A q)   (h : zp_X7_seed x1 P I L) : zz_Go p l e ({ frames := 0, cells := 0, slots := 0, locals := 0 } : Room) s m args below meth c 0 0 (MQ below (zz_Ql D ca zz_dC A a P) args s 0 0 A) D ca zz_dC A 5 0 a [] [(0, .ref (a 0)), (1, .long x1)] I L := by
  obtain ⟨hx, hb, hml, hown, zw, hr, hlocks⟩ := id X
  intro H locs ls hB hl
  unfold zp_X7_seed at h
  refine lv_aload_n hx hb dX7_seed_0 rfl (lv_at hl 0 rfl) ?_
  refine zz_getl hx hb hown zw hB zF_X7_74 zdC_0 rfl dX7_seed_1 ?_
  refine lv_topl (fun v4 ev4 => ?_)
  have h := h v4 ev4
  refine lv_lstore_n (lv' := [(3, .long v4), (0, .ref (a 0)), (1, .long x1)]) hx hb dX7_seed_4 rfl hl (by decide) rfl (fun ls hl => ?_)
  refine lv_aload_n hx hb dX7_seed_5 rfl (lv_at hl 1 rfl) ?_
  refine lv_lload_n hx hb dX7_seed_6 rfl (lv_at hl 2 rfl) ?_
  refine zz_putl hx hb hown zw hB zP_X7_74 zdC_0 rfl dX7_seed_7 (fun H locs hB => ?_)
  obtain ⟨L7, eL7⟩ : ∃ z : zz_L, z = zz_up L 0 12 x1 := ⟨_, rfl⟩
  rw [← eL7] at hB
  have h := h L7 eL7
  refine lv_lload_n hx hb dX7_seed_10 rfl (lv_at hl 0 rfl) ?_
  exact zz_lret hx hb hr hlocks hB h dX7_seed_11
theorem zc_X7_seed (l : Launch) (D : va_G) (ca : Nat → ClassId) (a : Nat → Nat) (I : zz_I) (L : zz_L) (sz : Nat) {x1 : Int64} {P : Int64 → zz_I → zz_L → Prop}  (h : zp_X7_seed x1 P I L) : Met l yX7_seed [.code yX7_seed cX7_seed 5 (some .long)] ({ frames := 0, cells := 0, slots := 0, locals := 0 } : Room) (zz_Pre D ca zz_dC [.ref (a 0), .long x1] a I L sz) (zz_Ql D ca zz_dC (zz_A ca zz_dC a I L sz) a P) 0 0 (zz_A ca zz_dC a I L sz) :=
  zz_start (by decide) (Nat.le_of_ble_eq_true rfl) (fun p e s m below meth c X hsz hA => zq_X7_seed X hA  h)
def zp_X7_setRule (x1 : Int32) (x2 : Int32) (x3 : Int32) (P : Int32 → zz_I → zz_L → Prop) (I : zz_I) (L : zz_L) : Prop := zp_X6_changeRule 21 x1 x2 x3 (fun r7 I7 L7 => (r7 < 0 → P r7 I7 L7) ∧ (¬ r7 < 0 → zp_X1_record (3 : Int32) ((x1 * (3 : Int32)) + x2) r7 (fun I29 L29 => P r7 I29 L29) I7 L7)) I L
set_option maxHeartbeats 4000000 in
set_option maxRecDepth 100000 in
theorem zq_X7_setRule {p : Program} {l : Launch} {e : Env} {s : State} {m : MethodId} {args : Array Value} {below : List Frame} {meth : Method} {c : Code} {D : va_G} {ca : Nat → ClassId} {A : Nat → Prop} {a : Nat → Nat}  {P : Int32 → zz_I → zz_L → Prop} {I : zz_I} {L : zz_L} {x1 : Int32} {x2 : Int32} {x3 : Int32} (X : zz_X p s m meth c cX7_setRule RX7 (some .int) 5) (hA : ∀ q, s.heap.size ≤ q → A q)   (h : zp_X7_setRule x1 x2 x3 P I L) : zz_Go p l e ({ frames := 2, cells := 0, slots := 0, locals := 44 } : Room) s m args below meth c 0 0 (MQ below (zz_Qi D ca zz_dC A a P) args s 0 0 A) D ca zz_dC A 5 0 a [] [(0, .ref (a 0)), (1, .int x1), (2, .int x2), (3, .int x3)] I L := by
  obtain ⟨hx, hb, hml, hown, zw, hr, hlocks⟩ := id X
  intro H locs ls hB hl
  unfold zp_X7_setRule at h
  refine lv_aload_n hx hb dX7_setRule_0 rfl (lv_at hl 0 rfl) ?_
  refine zz_getr (k' := 21) hx hb hown zw hB zF_X7_26 zdC_0 rfl rfl dX7_setRule_1 ?_
  refine lv_iload_n hx hb dX7_setRule_4 rfl (lv_at hl 1 rfl) ?_
  refine lv_iload_n hx hb dX7_setRule_5 rfl (lv_at hl 2 rfl) ?_
  refine lv_iload_n hx hb dX7_setRule_6 rfl (lv_at hl 3 rfl) ?_
  refine zz_goi hB hA (zz_runV (As := [.int x1, .int x2, .int x3]) (rest := []) hx hb hml hown zw hB zM_X7_159 (zc_X6_changeRule l D ca a I L H.size zz_isT_21 h) zdC_21 rfl rfl hl.1 rfl (Nat.le_of_ble_eq_true rfl) rfl rfl ⟨Nat.le_of_ble_eq_true rfl, Nat.le_of_ble_eq_true rfl⟩ dX7_setRule_7 ⟨Nat.le_of_ble_eq_true rfl, Nat.le_of_ble_eq_true rfl⟩) (fun r7 I7 L7 H locs h hB => ?_)
  refine lv_istore (lv' := [(4, .int r7), (0, .ref (a 0)), (1, .int x1), (2, .int x2), (3, .int x3)]) hx hb dX7_setRule_10 hl (by decide) rfl (fun ls hl => ?_)
  refine lv_iload hx hb dX7_setRule_12 (lv_at hl 0 rfl) ?_
  refine lv_if_lt (tgt := 32) hx hb dX7_setRule_14 (by decide) (fun c14 => ?_) (fun c14 => ?_)
  · have h := h.1 c14
    refine lv_iload hx hb dX7_setRule_32 (lv_at hl 0 rfl) ?_
    exact zz_iret hx hb hr hlocks hB h dX7_setRule_34
  · have h := h.2 c14
    refine lv_aload_n hx hb dX7_setRule_17 rfl (lv_at hl 1 rfl) ?_
    refine zz_getr (k' := 29) hx hb hown zw hB zF_X7_36 zdC_0 rfl rfl dX7_setRule_18 ?_
    refine lv_iconst (v := (3 : Int32)) hx hb dX7_setRule_21 (by decide) ?_
    refine lv_iload_n hx hb dX7_setRule_22 rfl (lv_at hl 2 rfl) ?_
    refine lv_iconst (v := (3 : Int32)) hx hb dX7_setRule_23 (by decide) ?_
    refine lv_imul hx hb dX7_setRule_24 ?_
    refine lv_iload_n hx hb dX7_setRule_25 rfl (lv_at hl 3 rfl) ?_
    refine lv_iadd hx hb dX7_setRule_26 ?_
    refine lv_iload hx hb dX7_setRule_27 (lv_at hl 0 rfl) ?_
    refine zz_gov hB hA (zz_runV (As := [.int (3 : Int32), .int ((x1 * (3 : Int32)) + x2), .int r7]) (rest := []) hx hb hml hown zw hB zM_X7_148 (zc_X1_record l D ca a I7 L7 H.size h) zdC_29 rfl rfl hl.1 rfl (Nat.le_of_ble_eq_true rfl) rfl rfl ⟨Nat.le_of_ble_eq_true rfl, Nat.le_of_ble_eq_true rfl⟩ dX7_setRule_29 ⟨Nat.le_of_ble_eq_true rfl, Nat.le_of_ble_eq_true rfl⟩) (fun I29 L29 H locs h hB => ?_)
    refine lv_iload hx hb dX7_setRule_32 (lv_at hl 0 rfl) ?_
    exact zz_iret hx hb hr hlocks hB h dX7_setRule_34
theorem zc_X7_setRule (l : Launch) (D : va_G) (ca : Nat → ClassId) (a : Nat → Nat) (I : zz_I) (L : zz_L) (sz : Nat) {x1 : Int32} {x2 : Int32} {x3 : Int32} {P : Int32 → zz_I → zz_L → Prop}  (h : zp_X7_setRule x1 x2 x3 P I L) : Met l yX7_setRule [.code yX7_setRule cX7_setRule 5 (some .int)] ({ frames := 2, cells := 0, slots := 0, locals := 44 } : Room) (zz_Pre D ca zz_dC [.ref (a 0), .int x1, .int x2, .int x3] a I L sz) (zz_Qi D ca zz_dC (zz_A ca zz_dC a I L sz) a P) 0 0 (zz_A ca zz_dC a I L sz) :=
  zz_start (by decide) (Nat.le_of_ble_eq_true rfl) (fun p e s m below meth c X hsz hA => zq_X7_setRule X hA  h)
def zp_X7_stands (x1 : Int32) (x2 : Int32) (P : Int64 → zz_I → zz_L → Prop) (I : zz_I) (L : zz_L) : Prop := zp_X6_hasUnit 21 x1 (fun r5 => (¬ r5 = 0 → zp_X7_isSign x2 (fun r16 => (¬ r16 = 0 → zp_X0_countAll 21 (fun r38 I38 L38 => zp_X0_countHeads  (fun I46 L46 => zp_X0_countSign x1 x2 (fun r59 => P r59 I46 L46) I46 L46) I38 L38) I L) ∧ (r16 = 0 → P (-2 : Int64) I L)) I L) ∧ (r5 = 0 → P (-1 : Int64) I L)) I L
set_option maxHeartbeats 4000000 in
set_option maxRecDepth 100000 in
theorem zq_X7_stands {p : Program} {l : Launch} {e : Env} {s : State} {m : MethodId} {args : Array Value} {below : List Frame} {meth : Method} {c : Code} {D : va_G} {ca : Nat → ClassId} {A : Nat → Prop} {a : Nat → Nat}  {P : Int64 → zz_I → zz_L → Prop} {I : zz_I} {L : zz_L} {x1 : Int32} {x2 : Int32} (X : zz_X p s m meth c cX7_stands RX7 (some .long) 3) (hA : ∀ q, s.heap.size ≤ q → A q)   (h : zp_X7_stands x1 x2 P I L) : zz_Go p l e ({ frames := 4, cells := 0, slots := 0, locals := 99 } : Room) s m args below meth c 0 0 (MQ below (zz_Ql D ca zz_dC A a P) args s 0 0 A) D ca zz_dC A 3 0 a [] [(0, .ref (a 0)), (1, .int x1), (2, .int x2)] I L := by
  obtain ⟨hx, hb, hml, hown, zw, hr, hlocks⟩ := id X
  intro H locs ls hB hl
  unfold zp_X7_stands at h
  refine lv_aload_n hx hb dX7_stands_0 rfl (lv_at hl 0 rfl) ?_
  refine zz_getr (k' := 21) hx hb hown zw hB zF_X7_26 zdC_0 rfl rfl dX7_stands_1 ?_
  refine lv_iload_n hx hb dX7_stands_4 rfl (lv_at hl 1 rfl) ?_
  refine zz_goip hB hA (zz_runV (As := [.int x1]) (rest := []) hx hb hml hown zw hB zM_X7_132 (zc_X6_hasUnit l D ca a I L H.size zz_isT_21 h) zdC_21 rfl rfl hl.1 rfl (Nat.le_of_ble_eq_true rfl) rfl rfl ⟨Nat.le_of_ble_eq_true rfl, Nat.le_of_ble_eq_true rfl⟩ dX7_stands_5 ⟨Nat.le_of_ble_eq_true rfl, Nat.le_of_ble_eq_true rfl⟩) (fun r5 H locs h hB => ?_)
  refine lv_if_ne (tgt := 15) hx hb dX7_stands_8 (by decide) (fun c8 => ?_) (fun c8 => ?_)
  · have h := h.1 c8
    refine lv_iload_n hx hb dX7_stands_15 rfl (lv_at hl 2 rfl) ?_
    refine zz_goip hB hA (zz_runS (As := [.int x2]) (rest := []) hx hb hml hown zw hB zM_X7_195 (zc_X7_isSign l D ca a I L H.size h) rfl hl.1 rfl (Nat.le_of_ble_eq_true rfl) rfl rfl ⟨Nat.le_of_ble_eq_true rfl, Nat.le_of_ble_eq_true rfl⟩ dX7_stands_16 ⟨Nat.le_of_ble_eq_true rfl, Nat.le_of_ble_eq_true rfl⟩) (fun r16 H locs h hB => ?_)
    refine lv_if_ne (tgt := 26) hx hb dX7_stands_19 (by decide) (fun c19 => ?_) (fun c19 => ?_)
    · have h := h.1 c19
      refine lv_aload_n hx hb dX7_stands_26 rfl (lv_at hl 0 rfl) ?_
      refine zz_getr (k' := 37) hx hb hown zw hB zF_X7_50 zdC_0 rfl rfl dX7_stands_27 ?_
      refine lv_aload_n hx hb dX7_stands_30 rfl (lv_at hl 0 rfl) ?_
      refine zz_getr (k' := 14) hx hb hown zw hB zF_X7_19 zdC_0 rfl rfl dX7_stands_31 ?_
      refine lv_aload_n hx hb dX7_stands_34 rfl (lv_at hl 0 rfl) ?_
      refine zz_getr (k' := 21) hx hb hown zw hB zF_X7_26 zdC_0 rfl rfl dX7_stands_35 ?_
      refine zz_gol hB hA (zz_runV (As := [.ref (a 14), .ref (a 21)]) (rest := []) hx hb hml hown zw hB zM_X7_174 (zc_X0_countAll l D ca a I L H.size zz_isT_21 h) zdC_37 rfl rfl hl.1 rfl (Nat.le_of_ble_eq_true rfl) rfl rfl ⟨Nat.le_of_ble_eq_true rfl, Nat.le_of_ble_eq_true rfl⟩ dX7_stands_38 ⟨Nat.le_of_ble_eq_true rfl, Nat.le_of_ble_eq_true rfl⟩) (fun r38 I38 L38 H locs h hB => ?_)
      refine lv_pop2_2 hx hb dX7_stands_41 rfl ?_
      refine lv_aload_n hx hb dX7_stands_42 rfl (lv_at hl 0 rfl) ?_
      refine zz_getr (k' := 37) hx hb hown zw hB zF_X7_50 zdC_0 rfl rfl dX7_stands_43 ?_
      refine zz_gov hB hA (zz_runV (As := []) (rest := []) hx hb hml hown zw hB zM_X7_200 (zc_X0_countHeads l D ca a I38 L38 H.size h) zdC_37 rfl rfl hl.1 rfl (Nat.le_of_ble_eq_true rfl) rfl rfl ⟨Nat.le_of_ble_eq_true rfl, Nat.le_of_ble_eq_true rfl⟩ dX7_stands_46 ⟨Nat.le_of_ble_eq_true rfl, Nat.le_of_ble_eq_true rfl⟩) (fun I46 L46 H locs h hB => ?_)
      refine lv_aload_n hx hb dX7_stands_49 rfl (lv_at hl 0 rfl) ?_
      refine zz_getr (k' := 37) hx hb hown zw hB zF_X7_50 zdC_0 rfl rfl dX7_stands_50 ?_
      refine lv_aload_n hx hb dX7_stands_53 rfl (lv_at hl 0 rfl) ?_
      refine zz_getr (k' := 14) hx hb hown zw hB zF_X7_19 zdC_0 rfl rfl dX7_stands_54 ?_
      refine lv_iload_n hx hb dX7_stands_57 rfl (lv_at hl 1 rfl) ?_
      refine lv_iload_n hx hb dX7_stands_58 rfl (lv_at hl 2 rfl) ?_
      refine zz_golp hB hA (zz_runV (As := [.ref (a 14), .int x1, .int x2]) (rest := []) hx hb hml hown zw hB zM_X7_203 (zc_X0_countSign l D ca a I46 L46 H.size h) zdC_37 rfl rfl hl.1 rfl (Nat.le_of_ble_eq_true rfl) rfl rfl ⟨Nat.le_of_ble_eq_true rfl, Nat.le_of_ble_eq_true rfl⟩ dX7_stands_59 ⟨Nat.le_of_ble_eq_true rfl, Nat.le_of_ble_eq_true rfl⟩) (fun r59 H locs h hB => ?_)
      exact zz_lret hx hb hr hlocks hB h dX7_stands_62
    · have h := h.2 c19
      refine lv_ldc2 (v := (-2 : Int64)) hx hb hown (zz_W_use zw zk_X7_198 rfl) dX7_stands_22 ?_
      exact zz_lret hx hb hr hlocks hB h dX7_stands_25
  · have h := h.2 c8
    refine lv_ldc2 (v := (-1 : Int64)) hx hb hown (zz_W_use zw zk_X7_193 rfl) dX7_stands_11 ?_
    exact zz_lret hx hb hr hlocks hB h dX7_stands_14
theorem zc_X7_stands (l : Launch) (D : va_G) (ca : Nat → ClassId) (a : Nat → Nat) (I : zz_I) (L : zz_L) (sz : Nat) {x1 : Int32} {x2 : Int32} {P : Int64 → zz_I → zz_L → Prop}  (h : zp_X7_stands x1 x2 P I L) : Met l yX7_stands [.code yX7_stands cX7_stands 3 (some .long)] ({ frames := 4, cells := 0, slots := 0, locals := 99 } : Room) (zz_Pre D ca zz_dC [.ref (a 0), .int x1, .int x2] a I L sz) (zz_Ql D ca zz_dC (zz_A ca zz_dC a I L sz) a P) 0 0 (zz_A ca zz_dC a I L sz) :=
  zz_start (by decide) (Nat.le_of_ble_eq_true rfl) (fun p e s m below meth c X hsz hA => zq_X7_stands X hA  h)
def zp_X7_stone  (P : Int32 → zz_I → zz_L → Prop) (I : zz_I) (L : zz_L) : Prop := zp_X4_parse  (fun r4 I4 L4 => (r4 = (-9 : Int32) → zp_X2_copyFrom  (fun I26 L26 => zp_X6_copyFrom 21 10 (fun I40 L40 => zp_X1_forget  (fun I47 L47 => ∀ I52 : zz_I, I52 = zz_up I47 0 10 (0 : Int32) → (∀ I57 : zz_I, I57 = zz_up I52 0 11 (0 : Int32) → (P (I57 21 3) I57 L47))) I40 L40) I26 L26) I4 L4) ∧ (¬ r4 = (-9 : Int32) → P (-3 : Int32) I4 L4)) I L
set_option maxHeartbeats 4000000 in
set_option maxRecDepth 100000 in
theorem zq_X7_stone {p : Program} {l : Launch} {e : Env} {s : State} {m : MethodId} {args : Array Value} {below : List Frame} {meth : Method} {c : Code} {D : va_G} {ca : Nat → ClassId} {A : Nat → Prop} {a : Nat → Nat}  {P : Int32 → zz_I → zz_L → Prop} {I : zz_I} {L : zz_L}  (X : zz_X p s m meth c cX7_stone RX7 (some .int) 1) (hA : ∀ q, s.heap.size ≤ q → A q)   (h : zp_X7_stone  P I L) : zz_Go p l e ({ frames := 6, cells := 0, slots := 0, locals := 131 } : Room) s m args below meth c 0 0 (MQ below (zz_Qi D ca zz_dC A a P) args s 0 0 A) D ca zz_dC A 1 0 a [] [(0, .ref (a 0))] I L := by
  obtain ⟨hx, hb, hml, hown, zw, hr, hlocks⟩ := id X
  intro H locs ls hB hl
  unfold zp_X7_stone at h
  refine lv_aload_n hx hb dX7_stone_0 rfl (lv_at hl 0 rfl) ?_
  refine zz_getr (k' := 1) hx hb hown zw hB zF_X7_12 zdC_0 rfl rfl dX7_stone_1 ?_
  refine zz_goi hB hA (zz_runV (As := []) (rest := []) hx hb hml hown zw hB zM_X7_86 (zc_X4_parse l D ca a I L H.size h) zdC_1 rfl rfl hl.1 rfl (Nat.le_of_ble_eq_true rfl) rfl rfl ⟨Nat.le_of_ble_eq_true rfl, Nat.le_of_ble_eq_true rfl⟩ dX7_stone_4 ⟨Nat.le_of_ble_eq_true rfl, Nat.le_of_ble_eq_true rfl⟩) (fun r4 I4 L4 H locs h hB => ?_)
  refine lv_bipush (v := (-9 : Int32)) hx hb dX7_stone_7 (by decide) ?_
  refine lv_icmp_eq (tgt := 15) hx hb dX7_stone_9 (by decide) (fun c9 => ?_) (fun c9 => ?_)
  · have h := h.1 c9
    refine lv_aload_n hx hb dX7_stone_15 rfl (lv_at hl 0 rfl) ?_
    refine zz_getr (k' := 14) hx hb hown zw hB zF_X7_19 zdC_0 rfl rfl dX7_stone_16 ?_
    refine lv_aload_n hx hb dX7_stone_19 rfl (lv_at hl 0 rfl) ?_
    refine zz_getr (k' := 1) hx hb hown zw hB zF_X7_12 zdC_0 rfl rfl dX7_stone_20 ?_
    refine zz_getr (k' := 3) hx hb hown zw hB zF_X7_90 zdC_1 rfl rfl dX7_stone_23 ?_
    refine zz_gov hB hA (zz_runV (As := [.ref (a 3)]) (rest := []) hx hb hml hown zw hB zM_X7_91 (zc_X2_copyFrom l D ca a I4 L4 H.size h) zdC_14 rfl rfl hl.1 rfl (Nat.le_of_ble_eq_true rfl) rfl rfl ⟨Nat.le_of_ble_eq_true rfl, Nat.le_of_ble_eq_true rfl⟩ dX7_stone_26 ⟨Nat.le_of_ble_eq_true rfl, Nat.le_of_ble_eq_true rfl⟩) (fun I26 L26 H locs h hB => ?_)
    refine lv_aload_n hx hb dX7_stone_29 rfl (lv_at hl 0 rfl) ?_
    refine zz_getr (k' := 21) hx hb hown zw hB zF_X7_26 zdC_0 rfl rfl dX7_stone_30 ?_
    refine lv_aload_n hx hb dX7_stone_33 rfl (lv_at hl 0 rfl) ?_
    refine zz_getr (k' := 1) hx hb hown zw hB zF_X7_12 zdC_0 rfl rfl dX7_stone_34 ?_
    refine zz_getr (k' := 10) hx hb hown zw hB zF_X7_95 zdC_1 rfl rfl dX7_stone_37 ?_
    refine zz_gov hB hA (zz_runV (As := [.ref (a 10)]) (rest := []) hx hb hml hown zw hB zM_X7_96 (zc_X6_copyFrom l D ca a I26 L26 H.size zz_isT_21 zz_isT_10 h) zdC_21 rfl rfl hl.1 rfl (Nat.le_of_ble_eq_true rfl) rfl rfl ⟨Nat.le_of_ble_eq_true rfl, Nat.le_of_ble_eq_true rfl⟩ dX7_stone_40 ⟨Nat.le_of_ble_eq_true rfl, Nat.le_of_ble_eq_true rfl⟩) (fun I40 L40 H locs h hB => ?_)
    refine lv_aload_n hx hb dX7_stone_43 rfl (lv_at hl 0 rfl) ?_
    refine zz_getr (k' := 29) hx hb hown zw hB zF_X7_36 zdC_0 rfl rfl dX7_stone_44 ?_
    refine zz_gov hB hA (zz_runV (As := []) (rest := []) hx hb hml hown zw hB zM_X7_99 (zc_X1_forget l D ca a I40 L40 H.size h) zdC_29 rfl rfl hl.1 rfl (Nat.le_of_ble_eq_true rfl) rfl rfl ⟨Nat.le_of_ble_eq_true rfl, Nat.le_of_ble_eq_true rfl⟩ dX7_stone_47 ⟨Nat.le_of_ble_eq_true rfl, Nat.le_of_ble_eq_true rfl⟩) (fun I47 L47 H locs h hB => ?_)
    refine lv_aload_n hx hb dX7_stone_50 rfl (lv_at hl 0 rfl) ?_
    refine lv_iconst (v := (0 : Int32)) hx hb dX7_stone_51 (by decide) ?_
    refine zz_putz hx hb hown zw hB zP_X7_67 zz_bool0 zdC_0 rfl dX7_stone_52 (fun H locs hB => ?_)
    obtain ⟨I52, eI52⟩ : ∃ z : zz_I, z = zz_up I47 0 10 (0 : Int32) := ⟨_, rfl⟩
    rw [← eI52] at hB
    have h := h I52 eI52
    refine lv_aload_n hx hb dX7_stone_55 rfl (lv_at hl 0 rfl) ?_
    refine lv_iconst (v := (0 : Int32)) hx hb dX7_stone_56 (by decide) ?_
    refine zz_putz hx hb hown zw hB zP_X7_71 zz_bool0 zdC_0 rfl dX7_stone_57 (fun H locs hB => ?_)
    obtain ⟨I57, eI57⟩ : ∃ z : zz_I, z = zz_up I52 0 11 (0 : Int32) := ⟨_, rfl⟩
    rw [← eI57] at hB
    have h := h I57 eI57
    refine lv_aload_n hx hb dX7_stone_60 rfl (lv_at hl 0 rfl) ?_
    refine zz_getr (k' := 21) hx hb hown zw hB zF_X7_26 zdC_0 rfl rfl dX7_stone_61 ?_
    refine zz_geti hx hb hown zw hB zF_X7_102 zdC_21 rfl dX7_stone_64 ?_
    exact zz_iret hx hb hr hlocks hB h dX7_stone_67
  · have h := h.2 c9
    refine lv_bipush (v := (-3 : Int32)) hx hb dX7_stone_12 (by decide) ?_
    exact zz_iret hx hb hr hlocks hB h dX7_stone_14
theorem zc_X7_stone (l : Launch) (D : va_G) (ca : Nat → ClassId) (a : Nat → Nat) (I : zz_I) (L : zz_L) (sz : Nat)  {P : Int32 → zz_I → zz_L → Prop}  (h : zp_X7_stone  P I L) : Met l yX7_stone [.code yX7_stone cX7_stone 1 (some .int)] ({ frames := 6, cells := 0, slots := 0, locals := 131 } : Room) (zz_Pre D ca zz_dC [.ref (a 0)] a I L sz) (zz_Qi D ca zz_dC (zz_A ca zz_dC a I L sz) a P) 0 0 (zz_A ca zz_dC a I L sz) :=
  zz_start (by decide) (Nat.le_of_ble_eq_true rfl) (fun p e s m below meth c X hsz hA => zq_X7_stone X hA  h)
def zp_X7_sure (x1 : Int32) (P : Int32 → zz_I → zz_L → Prop) (I : zz_I) (L : zz_L) : Prop := zp_X6_hasUnit 21 x1 (fun r5 => (r5 = 0 → P (-1 : Int32) I L) ∧ (¬ r5 = 0 → zp_X7_certainSign 21 x1 (fun r17 I17 L17 => P r17 I17 L17) I L)) I L
set_option maxHeartbeats 4000000 in
set_option maxRecDepth 100000 in
theorem zq_X7_sure {p : Program} {l : Launch} {e : Env} {s : State} {m : MethodId} {args : Array Value} {below : List Frame} {meth : Method} {c : Code} {D : va_G} {ca : Nat → ClassId} {A : Nat → Prop} {a : Nat → Nat}  {P : Int32 → zz_I → zz_L → Prop} {I : zz_I} {L : zz_L} {x1 : Int32} (X : zz_X p s m meth c cX7_sure RX7 (some .int) 2) (hA : ∀ q, s.heap.size ≤ q → A q)   (h : zp_X7_sure x1 P I L) : zz_Go p l e ({ frames := 5, cells := 0, slots := 0, locals := 124 } : Room) s m args below meth c 0 0 (MQ below (zz_Qi D ca zz_dC A a P) args s 0 0 A) D ca zz_dC A 2 0 a [] [(0, .ref (a 0)), (1, .int x1)] I L := by
  obtain ⟨hx, hb, hml, hown, zw, hr, hlocks⟩ := id X
  intro H locs ls hB hl
  unfold zp_X7_sure at h
  refine lv_aload_n hx hb dX7_sure_0 rfl (lv_at hl 0 rfl) ?_
  refine zz_getr (k' := 21) hx hb hown zw hB zF_X7_26 zdC_0 rfl rfl dX7_sure_1 ?_
  refine lv_iload_n hx hb dX7_sure_4 rfl (lv_at hl 1 rfl) ?_
  refine zz_goip hB hA (zz_runV (As := [.int x1]) (rest := []) hx hb hml hown zw hB zM_X7_132 (zc_X6_hasUnit l D ca a I L H.size zz_isT_21 h) zdC_21 rfl rfl hl.1 rfl (Nat.le_of_ble_eq_true rfl) rfl rfl ⟨Nat.le_of_ble_eq_true rfl, Nat.le_of_ble_eq_true rfl⟩ dX7_sure_5 ⟨Nat.le_of_ble_eq_true rfl, Nat.le_of_ble_eq_true rfl⟩) (fun r5 H locs h hB => ?_)
  refine lv_if_eq (tgt := 23) hx hb dX7_sure_8 (by decide) (fun c8 => ?_) (fun c8 => ?_)
  · have h := h.1 c8
    refine lv_iconst (v := (-1 : Int32)) hx hb dX7_sure_23 (by decide) ?_
    exact zz_iret hx hb hr hlocks hB h dX7_sure_24
  · have h := h.2 c8
    refine lv_aload_n hx hb dX7_sure_11 rfl (lv_at hl 0 rfl) ?_
    refine lv_aload_n hx hb dX7_sure_12 rfl (lv_at hl 0 rfl) ?_
    refine zz_getr (k' := 21) hx hb hown zw hB zF_X7_26 zdC_0 rfl rfl dX7_sure_13 ?_
    refine lv_iload_n hx hb dX7_sure_16 rfl (lv_at hl 1 rfl) ?_
    refine zz_goi hB hA (zz_runV (As := [.ref (a 21), .int x1]) (rest := []) hx hb hml hown zw hB zM_X7_211 (zc_X7_certainSign l D ca a I L H.size zz_isT_21 h) zdC_0 rfl rfl hl.1 rfl (Nat.le_of_ble_eq_true rfl) rfl rfl ⟨Nat.le_of_ble_eq_true rfl, Nat.le_of_ble_eq_true rfl⟩ dX7_sure_17 ⟨Nat.le_of_ble_eq_true rfl, Nat.le_of_ble_eq_true rfl⟩) (fun r17 I17 L17 H locs h hB => ?_)
    refine lv_goto (tgt := 24) hx hb dX7_sure_20 (by decide) ?_
    exact zz_iret hx hb hr hlocks hB h dX7_sure_24
theorem zc_X7_sure (l : Launch) (D : va_G) (ca : Nat → ClassId) (a : Nat → Nat) (I : zz_I) (L : zz_L) (sz : Nat) {x1 : Int32} {P : Int32 → zz_I → zz_L → Prop}  (h : zp_X7_sure x1 P I L) : Met l yX7_sure [.code yX7_sure cX7_sure 2 (some .int)] ({ frames := 5, cells := 0, slots := 0, locals := 124 } : Room) (zz_Pre D ca zz_dC [.ref (a 0), .int x1] a I L sz) (zz_Qi D ca zz_dC (zz_A ca zz_dC a I L sz) a P) 0 0 (zz_A ca zz_dC a I L sz) :=
  zz_start (by decide) (Nat.le_of_ble_eq_true rfl) (fun p e s m below meth c X hsz hA => zq_X7_sure X hA  h)
def zp_X7_undo  (P : Int32 → zz_I → zz_L → Prop) (I : zz_I) (L : zz_L) : Prop := (¬ (I 29 3) = 0 → zp_X1_takeBack  (fun I25 L25 => P (I25 29 3) I25 L25) I L) ∧ ((I 29 3) = 0 → P (-3 : Int32) I L)
set_option maxHeartbeats 4000000 in
set_option maxRecDepth 100000 in
theorem zq_X7_undo {p : Program} {l : Launch} {e : Env} {s : State} {m : MethodId} {args : Array Value} {below : List Frame} {meth : Method} {c : Code} {D : va_G} {ca : Nat → ClassId} {A : Nat → Prop} {a : Nat → Nat}  {P : Int32 → zz_I → zz_L → Prop} {I : zz_I} {L : zz_L}  (X : zz_X p s m meth c cX7_undo RX7 (some .int) 1) (hA : ∀ q, s.heap.size ≤ q → A q)   (h : zp_X7_undo  P I L) : zz_Go p l e ({ frames := 3, cells := 0, slots := 0, locals := 70 } : Room) s m args below meth c 0 0 (MQ below (zz_Qi D ca zz_dC A a P) args s 0 0 A) D ca zz_dC A 1 0 a [] [(0, .ref (a 0))] I L := by
  obtain ⟨hx, hb, hml, hown, zw, hr, hlocks⟩ := id X
  intro H locs ls hB hl
  unfold zp_X7_undo at h
  refine lv_aload_n hx hb dX7_undo_0 rfl (lv_at hl 0 rfl) ?_
  refine zz_getr (k' := 29) hx hb hown zw hB zF_X7_36 zdC_0 rfl rfl dX7_undo_1 ?_
  refine zz_geti hx hb hown zw hB zF_X7_163 zdC_29 rfl dX7_undo_4 ?_
  refine lv_if_ne (tgt := 13) hx hb dX7_undo_7 (by decide) (fun c7 => ?_) (fun c7 => ?_)
  · have h := h.1 c7
    refine lv_aload_n hx hb dX7_undo_13 rfl (lv_at hl 0 rfl) ?_
    refine zz_getr (k' := 29) hx hb hown zw hB zF_X7_36 zdC_0 rfl rfl dX7_undo_14 ?_
    refine lv_aload_n hx hb dX7_undo_17 rfl (lv_at hl 0 rfl) ?_
    refine zz_getr (k' := 14) hx hb hown zw hB zF_X7_19 zdC_0 rfl rfl dX7_undo_18 ?_
    refine lv_aload_n hx hb dX7_undo_21 rfl (lv_at hl 0 rfl) ?_
    refine zz_getr (k' := 21) hx hb hown zw hB zF_X7_26 zdC_0 rfl rfl dX7_undo_22 ?_
    refine zz_gov hB hA (zz_runV (As := [.ref (a 14), .ref (a 21)]) (rest := []) hx hb hml hown zw hB zM_X7_166 (zc_X1_takeBack l D ca a I L H.size h) zdC_29 rfl rfl hl.1 rfl (Nat.le_of_ble_eq_true rfl) rfl rfl ⟨Nat.le_of_ble_eq_true rfl, Nat.le_of_ble_eq_true rfl⟩ dX7_undo_25 ⟨Nat.le_of_ble_eq_true rfl, Nat.le_of_ble_eq_true rfl⟩) (fun I25 L25 H locs h hB => ?_)
    refine lv_aload_n hx hb dX7_undo_28 rfl (lv_at hl 0 rfl) ?_
    refine zz_getr (k' := 29) hx hb hown zw hB zF_X7_36 zdC_0 rfl rfl dX7_undo_29 ?_
    refine zz_geti hx hb hown zw hB zF_X7_163 zdC_29 rfl dX7_undo_32 ?_
    exact zz_iret hx hb hr hlocks hB h dX7_undo_35
  · have h := h.2 c7
    refine lv_bipush (v := (-3 : Int32)) hx hb dX7_undo_10 (by decide) ?_
    exact zz_iret hx hb hr hlocks hB h dX7_undo_12
theorem zc_X7_undo (l : Launch) (D : va_G) (ca : Nat → ClassId) (a : Nat → Nat) (I : zz_I) (L : zz_L) (sz : Nat)  {P : Int32 → zz_I → zz_L → Prop}  (h : zp_X7_undo  P I L) : Met l yX7_undo [.code yX7_undo cX7_undo 1 (some .int)] ({ frames := 3, cells := 0, slots := 0, locals := 70 } : Room) (zz_Pre D ca zz_dC [.ref (a 0)] a I L sz) (zz_Qi D ca zz_dC (zz_A ca zz_dC a I L sz) a P) 0 0 (zz_A ca zz_dC a I L sz) :=
  zz_start (by decide) (Nat.le_of_ble_eq_true rfl) (fun p e s m below meth c X hsz hA => zq_X7_undo X hA  h)
def zp_X7_unsee  (P : Int32 → zz_I → zz_L → Prop) (I : zz_I) (L : zz_L) : Prop := ∀ v7 : Int32, v7 = I 33 3 → (∀ I13 : zz_I, I13 = zz_up I 33 3 (0 : Int32) → (P v7 I13 L))
set_option maxHeartbeats 4000000 in
set_option maxRecDepth 100000 in
theorem zq_X7_unsee {p : Program} {l : Launch} {e : Env} {s : State} {m : MethodId} {args : Array Value} {below : List Frame} {meth : Method} {c : Code} {D : va_G} {ca : Nat → ClassId} {A : Nat → Prop} {a : Nat → Nat}  {P : Int32 → zz_I → zz_L → Prop} {I : zz_I} {L : zz_L}  (X : zz_X p s m meth c cX7_unsee RX7 (some .int) 2) (hA : ∀ q, s.heap.size ≤ q → A q)   (h : zp_X7_unsee  P I L) : zz_Go p l e ({ frames := 0, cells := 0, slots := 0, locals := 0 } : Room) s m args below meth c 0 0 (MQ below (zz_Qi D ca zz_dC A a P) args s 0 0 A) D ca zz_dC A 2 0 a [] [(0, .ref (a 0))] I L := by
  obtain ⟨hx, hb, hml, hown, zw, hr, hlocks⟩ := id X
  intro H locs ls hB hl
  unfold zp_X7_unsee at h
  refine lv_aload_n hx hb dX7_unsee_0 rfl (lv_at hl 0 rfl) ?_
  refine zz_getr (k' := 33) hx hb hown zw hB zF_X7_43 zdC_0 rfl rfl dX7_unsee_1 ?_
  refine zz_geti hx hb hown zw hB zF_X7_220 zdC_33 rfl dX7_unsee_4 ?_
  refine lv_topi (fun v7 ev7 => ?_)
  have h := h v7 ev7
  refine lv_istore_n (lv' := [(1, .int v7), (0, .ref (a 0))]) hx hb dX7_unsee_7 rfl hl (by decide) rfl (fun ls hl => ?_)
  refine lv_aload_n hx hb dX7_unsee_8 rfl (lv_at hl 1 rfl) ?_
  refine zz_getr (k' := 33) hx hb hown zw hB zF_X7_43 zdC_0 rfl rfl dX7_unsee_9 ?_
  refine lv_iconst (v := (0 : Int32)) hx hb dX7_unsee_12 (by decide) ?_
  refine zz_puti hx hb hown zw hB zP_X7_220 zdC_33 rfl dX7_unsee_13 (fun H locs hB => ?_)
  obtain ⟨I13, eI13⟩ : ∃ z : zz_I, z = zz_up I 33 3 (0 : Int32) := ⟨_, rfl⟩
  rw [← eI13] at hB
  have h := h I13 eI13
  refine lv_iload_n hx hb dX7_unsee_16 rfl (lv_at hl 0 rfl) ?_
  exact zz_iret hx hb hr hlocks hB h dX7_unsee_17
theorem zc_X7_unsee (l : Launch) (D : va_G) (ca : Nat → ClassId) (a : Nat → Nat) (I : zz_I) (L : zz_L) (sz : Nat)  {P : Int32 → zz_I → zz_L → Prop}  (h : zp_X7_unsee  P I L) : Met l yX7_unsee [.code yX7_unsee cX7_unsee 2 (some .int)] ({ frames := 0, cells := 0, slots := 0, locals := 0 } : Room) (zz_Pre D ca zz_dC [.ref (a 0)] a I L sz) (zz_Qi D ca zz_dC (zz_A ca zz_dC a I L sz) a P) 0 0 (zz_A ca zz_dC a I L sz) :=
  zz_start (by decide) (Nat.le_of_ble_eq_true rfl) (fun p e s m below meth c X hsz hA => zq_X7_unsee X hA  h)
def zp_X7_wear (x1 : Int32) (P : Int32 → zz_I → zz_L → Prop) (I : zz_I) (L : zz_L) : Prop := zp_X6_removeSign 21 x1 (fun r9 I9 L9 => (r9 < 0 → P r9 I9 L9) ∧ (¬ r9 < 0 → zp_X1_record (0 : Int32) x1 r9 (fun I24 L24 => P r9 I24 L24) I9 L9)) I L
set_option maxHeartbeats 4000000 in
set_option maxRecDepth 100000 in
theorem zq_X7_wear {p : Program} {l : Launch} {e : Env} {s : State} {m : MethodId} {args : Array Value} {below : List Frame} {meth : Method} {c : Code} {D : va_G} {ca : Nat → ClassId} {A : Nat → Prop} {a : Nat → Nat}  {P : Int32 → zz_I → zz_L → Prop} {I : zz_I} {L : zz_L} {x1 : Int32} (X : zz_X p s m meth c cX7_wear RX7 (some .int) 3) (hA : ∀ q, s.heap.size ≤ q → A q)   (h : zp_X7_wear x1 P I L) : zz_Go p l e ({ frames := 3, cells := 0, slots := 0, locals := 67 } : Room) s m args below meth c 0 0 (MQ below (zz_Qi D ca zz_dC A a P) args s 0 0 A) D ca zz_dC A 3 0 a [] [(0, .ref (a 0)), (1, .int x1)] I L := by
  obtain ⟨hx, hb, hml, hown, zw, hr, hlocks⟩ := id X
  intro H locs ls hB hl
  unfold zp_X7_wear at h
  refine lv_aload_n hx hb dX7_wear_0 rfl (lv_at hl 0 rfl) ?_
  refine zz_getr (k' := 21) hx hb hown zw hB zF_X7_26 zdC_0 rfl rfl dX7_wear_1 ?_
  refine lv_aload_n hx hb dX7_wear_4 rfl (lv_at hl 0 rfl) ?_
  refine zz_getr (k' := 14) hx hb hown zw hB zF_X7_19 zdC_0 rfl rfl dX7_wear_5 ?_
  refine lv_iload_n hx hb dX7_wear_8 rfl (lv_at hl 1 rfl) ?_
  refine zz_goi hB hA (zz_runV (As := [.ref (a 14), .int x1]) (rest := []) hx hb hml hown zw hB zM_X7_144 (zc_X6_removeSign l D ca a I L H.size zz_isT_21 h) zdC_21 rfl rfl hl.1 rfl (Nat.le_of_ble_eq_true rfl) rfl rfl ⟨Nat.le_of_ble_eq_true rfl, Nat.le_of_ble_eq_true rfl⟩ dX7_wear_9 ⟨Nat.le_of_ble_eq_true rfl, Nat.le_of_ble_eq_true rfl⟩) (fun r9 I9 L9 H locs h hB => ?_)
  refine lv_istore_n (lv' := [(2, .int r9), (0, .ref (a 0)), (1, .int x1)]) hx hb dX7_wear_12 rfl hl (by decide) rfl (fun ls hl => ?_)
  refine lv_iload_n hx hb dX7_wear_13 rfl (lv_at hl 0 rfl) ?_
  refine lv_if_lt (tgt := 27) hx hb dX7_wear_14 (by decide) (fun c14 => ?_) (fun c14 => ?_)
  · have h := h.1 c14
    refine lv_iload_n hx hb dX7_wear_27 rfl (lv_at hl 0 rfl) ?_
    exact zz_iret hx hb hr hlocks hB h dX7_wear_28
  · have h := h.2 c14
    refine lv_aload_n hx hb dX7_wear_17 rfl (lv_at hl 1 rfl) ?_
    refine zz_getr (k' := 29) hx hb hown zw hB zF_X7_36 zdC_0 rfl rfl dX7_wear_18 ?_
    refine lv_iconst (v := (0 : Int32)) hx hb dX7_wear_21 (by decide) ?_
    refine lv_iload_n hx hb dX7_wear_22 rfl (lv_at hl 2 rfl) ?_
    refine lv_iload_n hx hb dX7_wear_23 rfl (lv_at hl 0 rfl) ?_
    refine zz_gov hB hA (zz_runV (As := [.int (0 : Int32), .int x1, .int r9]) (rest := []) hx hb hml hown zw hB zM_X7_148 (zc_X1_record l D ca a I9 L9 H.size h) zdC_29 rfl rfl hl.1 rfl (Nat.le_of_ble_eq_true rfl) rfl rfl ⟨Nat.le_of_ble_eq_true rfl, Nat.le_of_ble_eq_true rfl⟩ dX7_wear_24 ⟨Nat.le_of_ble_eq_true rfl, Nat.le_of_ble_eq_true rfl⟩) (fun I24 L24 H locs h hB => ?_)
    refine lv_iload_n hx hb dX7_wear_27 rfl (lv_at hl 0 rfl) ?_
    exact zz_iret hx hb hr hlocks hB h dX7_wear_28
theorem zc_X7_wear (l : Launch) (D : va_G) (ca : Nat → ClassId) (a : Nat → Nat) (I : zz_I) (L : zz_L) (sz : Nat) {x1 : Int32} {P : Int32 → zz_I → zz_L → Prop}  (h : zp_X7_wear x1 P I L) : Met l yX7_wear [.code yX7_wear cX7_wear 3 (some .int)] ({ frames := 3, cells := 0, slots := 0, locals := 67 } : Room) (zz_Pre D ca zz_dC [.ref (a 0), .int x1] a I L sz) (zz_Qi D ca zz_dC (zz_A ca zz_dC a I L sz) a P) 0 0 (zz_A ca zz_dC a I L sz) :=
  zz_start (by decide) (Nat.le_of_ble_eq_true rfl) (fun p e s m below meth c X hsz hA => zq_X7_wear X hA  h)
def zp_X7_weigh (x1 : Int32) (x2 : Int32) (P : Int32 → zz_I → zz_L → Prop) (I : zz_I) (L : zz_L) : Prop := zp_X2_hasWord x1 (fun r5 => (¬ r5 = 0 → (x2 < (1 : Int32) → P (-2 : Int32) I L) ∧ (¬ x2 < (1 : Int32) → (x2 ≤ (9 : Int32) → vp_in x1 8 ∧ (∀ v36 : Int32, v36 = I 24 x1.toNatClampNeg → (vp_in x1 8 ∧ (∀ I46 : zz_I, I46 = zz_up I 24 x1.toNatClampNeg x2 → (zp_X1_record (4 : Int32) x1 v36 (fun I54 L54 => P v36 I54 L54) I46 L))))) ∧ (¬ x2 ≤ (9 : Int32) → P (-2 : Int32) I L))) ∧ (r5 = 0 → P (-1 : Int32) I L)) I L
set_option maxHeartbeats 4000000 in
set_option maxRecDepth 100000 in
theorem zq_X7_weigh {p : Program} {l : Launch} {e : Env} {s : State} {m : MethodId} {args : Array Value} {below : List Frame} {meth : Method} {c : Code} {D : va_G} {ca : Nat → ClassId} {A : Nat → Prop} {a : Nat → Nat}  {P : Int32 → zz_I → zz_L → Prop} {I : zz_I} {L : zz_L} {x1 : Int32} {x2 : Int32} (X : zz_X p s m meth c cX7_weigh RX7 (some .int) 4) (hA : ∀ q, s.heap.size ≤ q → A q)   (h : zp_X7_weigh x1 x2 P I L) : zz_Go p l e ({ frames := 2, cells := 0, slots := 0, locals := 44 } : Room) s m args below meth c 0 0 (MQ below (zz_Qi D ca zz_dC A a P) args s 0 0 A) D ca zz_dC A 4 0 a [] [(0, .ref (a 0)), (1, .int x1), (2, .int x2)] I L := by
  obtain ⟨hx, hb, hml, hown, zw, hr, hlocks⟩ := id X
  intro H locs ls hB hl
  unfold zp_X7_weigh at h
  refine lv_aload_n hx hb dX7_weigh_0 rfl (lv_at hl 0 rfl) ?_
  refine zz_getr (k' := 14) hx hb hown zw hB zF_X7_19 zdC_0 rfl rfl dX7_weigh_1 ?_
  refine lv_iload_n hx hb dX7_weigh_4 rfl (lv_at hl 1 rfl) ?_
  refine zz_goip hB hA (zz_runV (As := [.int x1]) (rest := []) hx hb hml hown zw hB zM_X7_105 (zc_X2_hasWord l D ca a I L H.size h) zdC_14 rfl rfl hl.1 rfl (Nat.le_of_ble_eq_true rfl) rfl rfl ⟨Nat.le_of_ble_eq_true rfl, Nat.le_of_ble_eq_true rfl⟩ dX7_weigh_5 ⟨Nat.le_of_ble_eq_true rfl, Nat.le_of_ble_eq_true rfl⟩) (fun r5 H locs h hB => ?_)
  refine lv_if_ne (tgt := 13) hx hb dX7_weigh_8 (by decide) (fun c8 => ?_) (fun c8 => ?_)
  · have h := h.1 c8
    refine lv_iload_n hx hb dX7_weigh_13 rfl (lv_at hl 2 rfl) ?_
    refine lv_iconst (v := (1 : Int32)) hx hb dX7_weigh_14 (by decide) ?_
    refine lv_icmp_lt (tgt := 24) hx hb dX7_weigh_15 (by decide) (fun c15 => ?_) (fun c15 => ?_)
    · have h := h.1 c15
      refine lv_bipush (v := (-2 : Int32)) hx hb dX7_weigh_24 (by decide) ?_
      exact zz_iret hx hb hr hlocks hB h dX7_weigh_26
    · have h := h.2 c15
      refine lv_iload_n hx hb dX7_weigh_18 rfl (lv_at hl 2 rfl) ?_
      refine lv_bipush (v := (9 : Int32)) hx hb dX7_weigh_19 (by decide) ?_
      refine lv_icmp_le (tgt := 27) hx hb dX7_weigh_21 (by decide) (fun c21 => ?_) (fun c21 => ?_)
      · have h := h.1 c21
        refine lv_aload_n hx hb dX7_weigh_27 rfl (lv_at hl 0 rfl) ?_
        refine zz_getr (k' := 21) hx hb hown zw hB zF_X7_26 zdC_0 rfl rfl dX7_weigh_28 ?_
        refine zz_getr (k' := 24) hx hb hown zw hB zF_X7_119 zdC_21 rfl rfl dX7_weigh_31 ?_
        refine lv_iload_n hx hb dX7_weigh_34 rfl (lv_at hl 1 rfl) ?_
        obtain ⟨hi35, h⟩ := h
        refine zz_iald hx hb hB zdC_24 hi35 dX7_weigh_35 ?_
        refine lv_topi (fun v36 ev36 => ?_)
        have h := h v36 ev36
        refine lv_istore_n (lv' := [(3, .int v36), (0, .ref (a 0)), (1, .int x1), (2, .int x2)]) hx hb dX7_weigh_36 rfl hl (by decide) rfl (fun ls hl => ?_)
        refine lv_aload_n hx hb dX7_weigh_37 rfl (lv_at hl 1 rfl) ?_
        refine zz_getr (k' := 21) hx hb hown zw hB zF_X7_26 zdC_0 rfl rfl dX7_weigh_38 ?_
        refine zz_getr (k' := 24) hx hb hown zw hB zF_X7_119 zdC_21 rfl rfl dX7_weigh_41 ?_
        refine lv_iload_n hx hb dX7_weigh_44 rfl (lv_at hl 2 rfl) ?_
        refine lv_iload_n hx hb dX7_weigh_45 rfl (lv_at hl 3 rfl) ?_
        obtain ⟨hi46, h⟩ := h
        refine zz_iast hx hb hB zdC_24 hi46 dX7_weigh_46 (fun H locs hB => ?_)
        obtain ⟨I46, eI46⟩ : ∃ z : zz_I, z = zz_up I 24 x1.toNatClampNeg x2 := ⟨_, rfl⟩
        rw [← eI46] at hB
        have h := h I46 eI46
        refine lv_aload_n hx hb dX7_weigh_47 rfl (lv_at hl 1 rfl) ?_
        refine zz_getr (k' := 29) hx hb hown zw hB zF_X7_36 zdC_0 rfl rfl dX7_weigh_48 ?_
        refine lv_iconst (v := (4 : Int32)) hx hb dX7_weigh_51 (by decide) ?_
        refine lv_iload_n hx hb dX7_weigh_52 rfl (lv_at hl 2 rfl) ?_
        refine lv_iload_n hx hb dX7_weigh_53 rfl (lv_at hl 0 rfl) ?_
        refine zz_gov hB hA (zz_runV (As := [.int (4 : Int32), .int x1, .int v36]) (rest := []) hx hb hml hown zw hB zM_X7_148 (zc_X1_record l D ca a I46 L H.size h) zdC_29 rfl rfl hl.1 rfl (Nat.le_of_ble_eq_true rfl) rfl rfl ⟨Nat.le_of_ble_eq_true rfl, Nat.le_of_ble_eq_true rfl⟩ dX7_weigh_54 ⟨Nat.le_of_ble_eq_true rfl, Nat.le_of_ble_eq_true rfl⟩) (fun I54 L54 H locs h hB => ?_)
        refine lv_iload_n hx hb dX7_weigh_57 rfl (lv_at hl 0 rfl) ?_
        exact zz_iret hx hb hr hlocks hB h dX7_weigh_58
      · have h := h.2 c21
        refine lv_bipush (v := (-2 : Int32)) hx hb dX7_weigh_24 (by decide) ?_
        exact zz_iret hx hb hr hlocks hB h dX7_weigh_26
  · have h := h.2 c8
    refine lv_iconst (v := (-1 : Int32)) hx hb dX7_weigh_11 (by decide) ?_
    exact zz_iret hx hb hr hlocks hB h dX7_weigh_12
theorem zc_X7_weigh (l : Launch) (D : va_G) (ca : Nat → ClassId) (a : Nat → Nat) (I : zz_I) (L : zz_L) (sz : Nat) {x1 : Int32} {x2 : Int32} {P : Int32 → zz_I → zz_L → Prop}  (h : zp_X7_weigh x1 x2 P I L) : Met l yX7_weigh [.code yX7_weigh cX7_weigh 4 (some .int)] ({ frames := 2, cells := 0, slots := 0, locals := 44 } : Room) (zz_Pre D ca zz_dC [.ref (a 0), .int x1, .int x2] a I L sz) (zz_Qi D ca zz_dC (zz_A ca zz_dC a I L sz) a P) 0 0 (zz_A ca zz_dC a I L sz) :=
  zz_start (by decide) (Nat.le_of_ble_eq_true rfl) (fun p e s m below meth c X hsz hA => zq_X7_weigh X hA  h)
def zp_X7_wipe  (P : Int32 → zz_I → zz_L → Prop) (I : zz_I) (L : zz_L) : Prop := ∀ v7 : Int32, v7 = I 1 1 → (∀ I13 : zz_I, I13 = zz_up I 1 1 (0 : Int32) → (P v7 I13 L))
set_option maxHeartbeats 4000000 in
set_option maxRecDepth 100000 in
theorem zq_X7_wipe {p : Program} {l : Launch} {e : Env} {s : State} {m : MethodId} {args : Array Value} {below : List Frame} {meth : Method} {c : Code} {D : va_G} {ca : Nat → ClassId} {A : Nat → Prop} {a : Nat → Nat}  {P : Int32 → zz_I → zz_L → Prop} {I : zz_I} {L : zz_L}  (X : zz_X p s m meth c cX7_wipe RX7 (some .int) 2) (hA : ∀ q, s.heap.size ≤ q → A q)   (h : zp_X7_wipe  P I L) : zz_Go p l e ({ frames := 0, cells := 0, slots := 0, locals := 0 } : Room) s m args below meth c 0 0 (MQ below (zz_Qi D ca zz_dC A a P) args s 0 0 A) D ca zz_dC A 2 0 a [] [(0, .ref (a 0))] I L := by
  obtain ⟨hx, hb, hml, hown, zw, hr, hlocks⟩ := id X
  intro H locs ls hB hl
  unfold zp_X7_wipe at h
  refine lv_aload_n hx hb dX7_wipe_0 rfl (lv_at hl 0 rfl) ?_
  refine zz_getr (k' := 1) hx hb hown zw hB zF_X7_12 zdC_0 rfl rfl dX7_wipe_1 ?_
  refine zz_geti hx hb hown zw hB zF_X7_78 zdC_1 rfl dX7_wipe_4 ?_
  refine lv_topi (fun v7 ev7 => ?_)
  have h := h v7 ev7
  refine lv_istore_n (lv' := [(1, .int v7), (0, .ref (a 0))]) hx hb dX7_wipe_7 rfl hl (by decide) rfl (fun ls hl => ?_)
  refine lv_aload_n hx hb dX7_wipe_8 rfl (lv_at hl 1 rfl) ?_
  refine zz_getr (k' := 1) hx hb hown zw hB zF_X7_12 zdC_0 rfl rfl dX7_wipe_9 ?_
  refine lv_iconst (v := (0 : Int32)) hx hb dX7_wipe_12 (by decide) ?_
  refine zz_puti hx hb hown zw hB zP_X7_78 zdC_1 rfl dX7_wipe_13 (fun H locs hB => ?_)
  obtain ⟨I13, eI13⟩ : ∃ z : zz_I, z = zz_up I 1 1 (0 : Int32) := ⟨_, rfl⟩
  rw [← eI13] at hB
  have h := h I13 eI13
  refine lv_iload_n hx hb dX7_wipe_16 rfl (lv_at hl 0 rfl) ?_
  exact zz_iret hx hb hr hlocks hB h dX7_wipe_17
theorem zc_X7_wipe (l : Launch) (D : va_G) (ca : Nat → ClassId) (a : Nat → Nat) (I : zz_I) (L : zz_L) (sz : Nat)  {P : Int32 → zz_I → zz_L → Prop}  (h : zp_X7_wipe  P I L) : Met l yX7_wipe [.code yX7_wipe cX7_wipe 2 (some .int)] ({ frames := 0, cells := 0, slots := 0, locals := 0 } : Room) (zz_Pre D ca zz_dC [.ref (a 0)] a I L sz) (zz_Qi D ca zz_dC (zz_A ca zz_dC a I L sz) a P) 0 0 (zz_A ca zz_dC a I L sz) :=
  zz_start (by decide) (Nat.le_of_ble_eq_true rfl) (fun p e s m below meth c X hsz hA => zq_X7_wipe X hA  h)
