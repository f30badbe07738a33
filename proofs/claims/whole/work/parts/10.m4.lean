def zp_X8_behind (k1 : Nat) (x2 : Int32) (x3 : Int32) (P : Int64 → Prop) (I : zz_I) (L : zz_L) : Prop := zp_X8_unitsOf x2 (fun r3 => ∀ v7 : Int32, v7 = x3 + r3 → (vp_in (0 : Int32) 43 ∧ ((¬ v7 = (I k1 (0 : Int32).toNatClampNeg) → vp_in (((9 : Int32) * (v7 + (1 : Int32))) + x2) 225 ∧ (P (L 23 (((9 : Int32) * (v7 + (1 : Int32))) + x2).toNatClampNeg))) ∧ (v7 = (I k1 (0 : Int32).toNatClampNeg) → P (1 : Int64))))) I L
set_option maxHeartbeats 4000000 in
set_option maxRecDepth 100000 in
theorem zq_X8_behind {p : Program} {l : Launch} {e : Env} {s : State} {m : MethodId} {args : Array Value} {below : List Frame} {meth : Method} {c : Code} {D : va_G} {ca : Nat → ClassId} {A : Nat → Prop} {a : Nat → Nat}  {P : Int64 → Prop} {I : zz_I} {L : zz_L} {k1 : Nat} {x2 : Int32} {x3 : Int32} (X : zz_X p s m meth c cX8_behind RX8 (some .long) 5) (hA : ∀ q, s.heap.size ≤ q → A q) (hk1 : zz_dM[k1]? = some (.inl (0, 43)))  (h : zp_X8_behind k1 x2 x3 P I L) : zz_Go p l e ({ frames := 1, cells := 0, slots := 0, locals := 23 } : Room) s m args below meth c 0 0 (MQ below (zz_Ql D ca zz_dM A a (fun r I9 L9 => P r ∧ I9 = I ∧ L9 = L)) args s 0 0 A) D ca zz_dM A 5 0 a [] [(0, .ref (a 0)), (1, .ref (a k1)), (2, .int x2), (3, .int x3)] I L := by
  obtain ⟨hx, hb, hml, hown, zw, hr, hlocks⟩ := id X
  intro H locs ls hB hl
  unfold zp_X8_behind at h
  refine lv_iload_n hx hb dX8_behind_0 rfl (lv_at hl 3 rfl) ?_
  refine lv_aload_n hx hb dX8_behind_1 rfl (lv_at hl 0 rfl) ?_
  refine lv_iload_n hx hb dX8_behind_2 rfl (lv_at hl 2 rfl) ?_
  refine zz_goip hB hA (zz_runV (As := [.int x2]) (rest := [.int x3]) hx hb hml hown zw hB zM_X8_152 (zc_X8_unitsOf l D ca a I L H.size h) zdM_0 rfl rfl hl.1 rfl (Nat.le_of_ble_eq_true rfl) rfl rfl ⟨Nat.le_of_ble_eq_true rfl, Nat.le_of_ble_eq_true rfl⟩ dX8_behind_3 ⟨Nat.le_of_ble_eq_true rfl, Nat.le_of_ble_eq_true rfl⟩) (fun r3 H locs h hB => ?_)
  refine lv_iadd hx hb dX8_behind_6 ?_
  refine lv_topi (fun v7 ev7 => ?_)
  have h := h v7 ev7
  refine lv_istore (lv' := [(4, .int v7), (0, .ref (a 0)), (1, .ref (a k1)), (2, .int x2), (3, .int x3)]) hx hb dX8_behind_7 hl (by decide) rfl (fun ls hl => ?_)
  refine lv_iload hx hb dX8_behind_9 (lv_at hl 0 rfl) ?_
  refine lv_aload_n hx hb dX8_behind_11 rfl (lv_at hl 2 rfl) ?_
  refine lv_iconst (v := (0 : Int32)) hx hb dX8_behind_12 (by decide) ?_
  obtain ⟨hi13, h⟩ := h
  refine zz_iald hx hb hB hk1 hi13 dX8_behind_13 ?_
  refine lv_icmp_ne (tgt := 21) hx hb dX8_behind_14 (by decide) (fun c14 => ?_) (fun c14 => ?_)
  · have h := h.1 c14
    refine lv_aload_n hx hb dX8_behind_21 rfl (lv_at hl 1 rfl) ?_
    refine zz_getr (k' := 23) hx hb hown zw hB zF_X8_78 zdM_0 rfl rfl dX8_behind_22 ?_
    refine lv_bipush (v := (9 : Int32)) hx hb dX8_behind_25 (by decide) ?_
    refine lv_iload hx hb dX8_behind_27 (lv_at hl 0 rfl) ?_
    refine lv_iconst (v := (1 : Int32)) hx hb dX8_behind_29 (by decide) ?_
    refine lv_iadd hx hb dX8_behind_30 ?_
    refine lv_imul hx hb dX8_behind_31 ?_
    refine lv_iload_n hx hb dX8_behind_32 rfl (lv_at hl 3 rfl) ?_
    refine lv_iadd hx hb dX8_behind_33 ?_
    obtain ⟨hi34, h⟩ := h
    refine zz_lald hx hb hB zdM_23 hi34 dX8_behind_34 ?_
    exact zz_lret hx hb hr hlocks hB ⟨h, rfl, rfl⟩ dX8_behind_35
  · have h := h.2 c14
    refine lv_lconst (v := (1 : Int64)) hx hb dX8_behind_17 (by decide) ?_
    refine lv_goto (tgt := 35) hx hb dX8_behind_18 (by decide) ?_
    exact zz_lret hx hb hr hlocks hB ⟨h, rfl, rfl⟩ dX8_behind_35
theorem zc_X8_behind (l : Launch) (D : va_G) (ca : Nat → ClassId) (a : Nat → Nat) (I : zz_I) (L : zz_L) (sz : Nat) {k1 : Nat} {x2 : Int32} {x3 : Int32} {P : Int64 → Prop} (hk1 : zz_dM[k1]? = some (.inl (0, 43))) (h : zp_X8_behind k1 x2 x3 P I L) : Met l yX8_behind [.code yX8_behind cX8_behind 5 (some .long)] ({ frames := 1, cells := 0, slots := 0, locals := 23 } : Room) (zz_Pre D ca zz_dM [.ref (a 0), .ref (a k1), .int x2, .int x3] a I L sz) (zz_Ql D ca zz_dM (zz_A ca zz_dM a I L sz) a (fun r I9 L9 => P r ∧ I9 = I ∧ L9 = L)) 0 0 (zz_A ca zz_dM a I L sz) :=
  zz_start (by decide) (Nat.le_of_ble_eq_true rfl) (fun p e s m below meth c X hsz hA => zq_X8_behind X hA hk1 h)
def zp_X8_begins_106 (K46 : Int64 → Int32 → Prop) (P : Int64 → zz_I → zz_L → Prop) (x1 : Int32) (x2 : Int32) (x5 : Int32) (s0 : Int64) (I : zz_I) (L : zz_L) : Prop := ∀ v108 : Int64, v108 = s0 + (0 : Int64) → (∀ v109 : Int32, v109 = x5 + (1 : Int32) → (K46 v108 v109))
set_option maxHeartbeats 4000000 in
set_option maxRecDepth 100000 in
theorem zq_X8_begins_106 {p : Program} {l : Launch} {e : Env} {s : State} {m : MethodId} {args : Array Value} {below : List Frame} {meth : Method} {c : Code} {D : va_G} {ca : Nat → ClassId} {A : Nat → Prop} {a : Nat → Nat} {K46 : Int64 → Int32 → Prop} {P : Int64 → zz_I → zz_L → Prop} {I : zz_I} {L : zz_L} {x1 : Int32} {x2 : Int32} {x5 : Int32} {s0 : Int64} (X : zz_X p s m meth c cX8_begins RX8 (some .long) 8) (hA : ∀ q, s.heap.size ≤ q → A q)  (hK46 : ∀ (y3 : Int64) (y5 : Int32), K46 y3 y5 → zz_Go p l e ({ frames := 5, cells := 0, slots := 0, locals := 127 } : Room) s m args below meth c 0 0 (MQ below (zz_Ql D ca zz_dM A a P) args s 0 0 A) D ca zz_dM A 8 46 a [] [(0, .ref (a 0)), (1, .int x1), (2, .int x2), (3, .long y3), (5, .int y5)] I L) (h : zp_X8_begins_106 K46 P x1 x2 x5 s0 I L) : zz_Go p l e ({ frames := 5, cells := 0, slots := 0, locals := 127 } : Room) s m args below meth c 0 0 (MQ below (zz_Ql D ca zz_dM A a P) args s 0 0 A) D ca zz_dM A 8 106 a [.long s0] [(0, .ref (a 0)), (1, .int x1), (2, .int x2), (5, .int x5)] I L := by
  obtain ⟨hx, hb, hml, hown, zw, hr, hlocks⟩ := id X
  intro H locs ls hB hl
  unfold zp_X8_begins_106 at h
  refine lv_lconst (v := (0 : Int64)) hx hb dX8_begins_106 (by decide) ?_
  refine lv_ladd hx hb dX8_begins_107 ?_
  refine lv_topl (fun v108 ev108 => ?_)
  have h := h v108 ev108
  refine lv_lstore_n (lv' := [(3, .long v108), (0, .ref (a 0)), (1, .int x1), (2, .int x2), (5, .int x5)]) hx hb dX8_begins_108 rfl hl (by decide) rfl (fun ls hl => ?_)
  obtain ⟨v109, ev109⟩ : ∃ z : Int32, z = x5 + (1 : Int32) := ⟨_, rfl⟩
  have h := h v109 ev109
  refine lv_iinc (v := v109) (lv' := [(5, .int v109), (3, .long v108), (0, .ref (a 0)), (1, .int x1), (2, .int x2)]) hx hb dX8_begins_109 hl (k := 4) rfl (by rw [ev109]; rfl) (by decide) rfl (fun ls hl => ?_)
  refine lv_goto (tgt := 46) hx hb dX8_begins_112 (by decide) ?_
  exact hK46 _ _ h H locs ls hB (lv_sub hl [2, 3, 4, 1, 0] rfl)
def zp_X8_begins_46b (K46 : Int64 → Int32 → Prop) (P : Int64 → zz_I → zz_L → Prop) (x1 : Int32) (x2 : Int32) (x3 : Int64) (x5 : Int32) (I : zz_I) (L : zz_L) : Prop := ((8 : Int32) < x5 → P x3 I L) ∧ (¬ (8 : Int32) < x5 → vp_in (((9 : Int32) * x2) + x5) 225 ∧ (∀ v65 : Int64, v65 = L 24 (((9 : Int32) * x2) + x5).toNatClampNeg → ((v65 ≤ (0 : Int64) → zp_X8_begins_106 K46 P x1 x2 x5 x3 I L) ∧ (¬ v65 ≤ (0 : Int64) → zp_X8_fits 14 x1 x2 x5 (fun r84 => (r84 = 0 → zp_X8_begins_106 K46 P x1 x2 x5 x3 I L) ∧ (¬ r84 = 0 → zp_X8_behind 14 x1 x2 (fun r99 => ∀ v108 : Int64, v108 = x3 + (v65 * r99) → (∀ v109 : Int32, v109 = x5 + (1 : Int32) → (K46 v108 v109))) I L)) I L))))
set_option maxHeartbeats 4000000 in
set_option maxRecDepth 100000 in
theorem zq_X8_begins_46b {p : Program} {l : Launch} {e : Env} {s : State} {m : MethodId} {args : Array Value} {below : List Frame} {meth : Method} {c : Code} {D : va_G} {ca : Nat → ClassId} {A : Nat → Prop} {a : Nat → Nat} {K46 : Int64 → Int32 → Prop} {P : Int64 → zz_I → zz_L → Prop} {I : zz_I} {L : zz_L} {x1 : Int32} {x2 : Int32} {x3 : Int64} {x5 : Int32} (X : zz_X p s m meth c cX8_begins RX8 (some .long) 8) (hA : ∀ q, s.heap.size ≤ q → A q)  (hK46 : ∀ (y3 : Int64) (y5 : Int32), K46 y3 y5 → zz_Go p l e ({ frames := 5, cells := 0, slots := 0, locals := 127 } : Room) s m args below meth c 0 0 (MQ below (zz_Ql D ca zz_dM A a P) args s 0 0 A) D ca zz_dM A 8 46 a [] [(0, .ref (a 0)), (1, .int x1), (2, .int x2), (3, .long y3), (5, .int y5)] I L) (h : zp_X8_begins_46b K46 P x1 x2 x3 x5 I L) : zz_Go p l e ({ frames := 5, cells := 0, slots := 0, locals := 127 } : Room) s m args below meth c 0 0 (MQ below (zz_Ql D ca zz_dM A a P) args s 0 0 A) D ca zz_dM A 8 46 a [] [(0, .ref (a 0)), (1, .int x1), (2, .int x2), (3, .long x3), (5, .int x5)] I L := by
  obtain ⟨hx, hb, hml, hown, zw, hr, hlocks⟩ := id X
  intro H locs ls hB hl
  unfold zp_X8_begins_46b at h
  refine lv_iload hx hb dX8_begins_46 (lv_at hl 4 rfl) ?_
  refine lv_bipush (v := (8 : Int32)) hx hb dX8_begins_48 (by decide) ?_
  refine lv_icmp_gt (tgt := 115) hx hb dX8_begins_50 (by decide) (fun c50 => ?_) (fun c50 => ?_)
  · have h := h.1 c50
    refine lv_lload_n hx hb dX8_begins_115 rfl (lv_at hl 3 rfl) ?_
    exact zz_lret hx hb hr hlocks hB h dX8_begins_116
  · have h := h.2 c50
    refine lv_aload_n hx hb dX8_begins_53 rfl (lv_at hl 0 rfl) ?_
    refine zz_getr (k' := 24) hx hb hown zw hB zF_X8_81 zdM_0 rfl rfl dX8_begins_54 ?_
    refine lv_bipush (v := (9 : Int32)) hx hb dX8_begins_57 (by decide) ?_
    refine lv_iload_n hx hb dX8_begins_59 rfl (lv_at hl 2 rfl) ?_
    refine lv_imul hx hb dX8_begins_60 ?_
    refine lv_iload hx hb dX8_begins_61 (lv_at hl 4 rfl) ?_
    refine lv_iadd hx hb dX8_begins_63 ?_
    obtain ⟨hi64, h⟩ := h
    refine zz_lald hx hb hB zdM_24 hi64 dX8_begins_64 ?_
    refine lv_topl (fun v65 ev65 => ?_)
    have h := h v65 ev65
    refine lv_lstore (lv' := [(6, .long v65), (0, .ref (a 0)), (1, .int x1), (2, .int x2), (3, .long x3), (5, .int x5)]) hx hb dX8_begins_65 hl (by decide) rfl (fun ls hl => ?_)
    refine lv_lload_n hx hb dX8_begins_67 rfl (lv_at hl 4 rfl) ?_
    refine lv_lload hx hb dX8_begins_68 (lv_at hl 0 rfl) ?_
    refine lv_lconst (v := (0 : Int64)) hx hb dX8_begins_70 (by decide) ?_
    refine zz_l_le (tgt := 106) hx hb dX8_begins_71 dX8_begins_72 (by decide) (fun c71 => ?_) (fun c71 => ?_)
    · have h := h.1 c71
      exact zq_X8_begins_106 X hA hK46 h H locs ls hB (lv_sub hl [1, 2, 3, 5] rfl)
    · have h := h.2 c71
      refine lv_aload_n hx hb dX8_begins_75 rfl (lv_at hl 1 rfl) ?_
      refine lv_aload_n hx hb dX8_begins_76 rfl (lv_at hl 1 rfl) ?_
      refine zz_getr (k' := 14) hx hb hown zw hB zF_X8_50 zdM_0 rfl rfl dX8_begins_77 ?_
      refine lv_iload_n hx hb dX8_begins_80 rfl (lv_at hl 2 rfl) ?_
      refine lv_iload_n hx hb dX8_begins_81 rfl (lv_at hl 3 rfl) ?_
      refine lv_iload hx hb dX8_begins_82 (lv_at hl 5 rfl) ?_
      refine zz_goip hB hA (zz_runV (As := [.ref (a 14), .int x1, .int x2, .int x5]) (rest := [.long x3]) hx hb hml hown zw hB zM_X8_199 (zc_X8_fits l D ca a I L H.size zdM_14 h) zdM_0 rfl rfl hl.1 rfl (Nat.le_of_ble_eq_true rfl) rfl rfl ⟨Nat.le_of_ble_eq_true rfl, Nat.le_of_ble_eq_true rfl⟩ dX8_begins_84 ⟨Nat.le_of_ble_eq_true rfl, Nat.le_of_ble_eq_true rfl⟩) (fun r84 H locs h hB => ?_)
      refine lv_if_eq (tgt := 106) hx hb dX8_begins_87 (by decide) (fun c87 => ?_) (fun c87 => ?_)
      · have h := h.1 c87
        exact zq_X8_begins_106 X hA hK46 h H locs ls hB (lv_sub hl [1, 2, 3, 5] rfl)
      · have h := h.2 c87
        refine lv_lload hx hb dX8_begins_90 (lv_at hl 0 rfl) ?_
        refine lv_aload_n hx hb dX8_begins_92 rfl (lv_at hl 1 rfl) ?_
        refine lv_aload_n hx hb dX8_begins_93 rfl (lv_at hl 1 rfl) ?_
        refine zz_getr (k' := 14) hx hb hown zw hB zF_X8_50 zdM_0 rfl rfl dX8_begins_94 ?_
        refine lv_iload_n hx hb dX8_begins_97 rfl (lv_at hl 2 rfl) ?_
        refine lv_iload_n hx hb dX8_begins_98 rfl (lv_at hl 3 rfl) ?_
        refine zz_golp hB hA (zz_runV (As := [.ref (a 14), .int x1, .int x2]) (rest := [.long v65, .long x3]) hx hb hml hown zw hB zM_X8_246 (zc_X8_behind l D ca a I L H.size zdM_14 h) zdM_0 rfl rfl hl.1 rfl (Nat.le_of_ble_eq_true rfl) rfl rfl ⟨Nat.le_of_ble_eq_true rfl, Nat.le_of_ble_eq_true rfl⟩ dX8_begins_99 ⟨Nat.le_of_ble_eq_true rfl, Nat.le_of_ble_eq_true rfl⟩) (fun r99 H locs h hB => ?_)
        refine lv_lmul hx hb dX8_begins_102 ?_
        refine lv_goto (tgt := 107) hx hb dX8_begins_103 (by decide) ?_
        refine lv_ladd hx hb dX8_begins_107 ?_
        refine lv_topl (fun v108 ev108 => ?_)
        have h := h v108 ev108
        refine lv_lstore_n (lv' := [(3, .long v108), (6, .long v65), (0, .ref (a 0)), (1, .int x1), (2, .int x2), (5, .int x5)]) hx hb dX8_begins_108 rfl hl (by decide) rfl (fun ls hl => ?_)
        obtain ⟨v109, ev109⟩ : ∃ z : Int32, z = x5 + (1 : Int32) := ⟨_, rfl⟩
        have h := h v109 ev109
        refine lv_iinc (v := v109) (lv' := [(5, .int v109), (3, .long v108), (6, .long v65), (0, .ref (a 0)), (1, .int x1), (2, .int x2)]) hx hb dX8_begins_109 hl (k := 5) rfl (by rw [ev109]; rfl) (by decide) rfl (fun ls hl => ?_)
        refine lv_goto (tgt := 46) hx hb dX8_begins_112 (by decide) ?_
        exact hK46 _ _ h H locs ls hB (lv_sub hl [3, 4, 5, 1, 0] rfl)
def zp_X8_begins_46  (P : Int64 → zz_I → zz_L → Prop) (x1 : Int32) (x2 : Int32) (x3 : Int64) (x5 : Int32) (I : zz_I) (L : zz_L) : Prop := ∃ (Inv : Int64 → Int32 → Prop) (μ : Int64 → Int32 → Nat), Inv x3 x5 ∧ ∀ (y3 : Int64) (y5 : Int32), Inv y3 y5 → zp_X8_begins_46b  (fun z3 z5 => Inv z3 z5 ∧ μ z3 z5 < μ y3 y5) P x1 x2 y3 y5 I L
set_option maxHeartbeats 4000000 in
set_option maxRecDepth 100000 in
theorem zq_X8_begins_46 {p : Program} {l : Launch} {e : Env} {s : State} {m : MethodId} {args : Array Value} {below : List Frame} {meth : Method} {c : Code} {D : va_G} {ca : Nat → ClassId} {A : Nat → Prop} {a : Nat → Nat}  {P : Int64 → zz_I → zz_L → Prop} {I : zz_I} {L : zz_L} {x1 : Int32} {x2 : Int32} {x3 : Int64} {x5 : Int32} (X : zz_X p s m meth c cX8_begins RX8 (some .long) 8) (hA : ∀ q, s.heap.size ≤ q → A q)   (h : zp_X8_begins_46  P x1 x2 x3 x5 I L) : zz_Go p l e ({ frames := 5, cells := 0, slots := 0, locals := 127 } : Room) s m args below meth c 0 0 (MQ below (zz_Ql D ca zz_dM A a P) args s 0 0 A) D ca zz_dM A 8 46 a [] [(0, .ref (a 0)), (1, .int x1), (2, .int x2), (3, .long x3), (5, .int x5)] I L := by
  unfold zp_X8_begins_46 at h
  obtain ⟨Inv, μ, hv0, hs⟩ := h
  have key : ∀ (n9 : Nat) (y3 : Int64) (y5 : Int32), μ y3 y5 < n9 → Inv y3 y5 → zz_Go p l e ({ frames := 5, cells := 0, slots := 0, locals := 127 } : Room) s m args below meth c 0 0 (MQ below (zz_Ql D ca zz_dM A a P) args s 0 0 A) D ca zz_dM A 8 46 a [] [(0, .ref (a 0)), (1, .int x1), (2, .int x2), (3, .long y3), (5, .int y5)] I L := by
    intro n9
    induction n9 with
    | zero => intro y3 y5 hn; exact absurd hn (Nat.not_lt_zero _)
    | succ n9 ih =>
      intro y3 y5 hn hi
      exact zq_X8_begins_46b (K46 := (fun z3 z5 => Inv z3 z5 ∧ μ z3 z5 < μ y3 y5)) X hA   (fun z3 z5 hz => ih z3 z5 (Nat.lt_of_lt_of_le hz.2 (Nat.le_of_lt_succ hn)) hz.1) (hs y3 y5 hi)
  exact key _ x3 x5 (Nat.lt_succ_self _) hv0
def zp_X8_begins (x1 : Int32) (x2 : Int32) (P : Int64 → zz_I → zz_L → Prop) (I : zz_I) (L : zz_L) : Prop := ∀ I2 : zz_I, I2 = zz_up I 0 0 (0 : Int32) → (zp_X8_noWord x1 (fun r7 => (¬ r7 = 0 → P (-1 : Int64) I2 L) ∧ (r7 = 0 → zp_X8_noUnit x2 (fun r15 => (r15 = 0 → zp_X8_layFrom 14 (fun I30 L30 => zp_X8_layTo 14 (fun I38 L38 => zp_X8_begins_46 P x1 x2 (0 : Int64) (0 : Int32) I38 L38) I30 L30) I2 L) ∧ (¬ r15 = 0 → P (-1 : Int64) I2 L)) I2 L)) I2 L)
set_option maxHeartbeats 4000000 in
set_option maxRecDepth 100000 in
theorem zq_X8_begins {p : Program} {l : Launch} {e : Env} {s : State} {m : MethodId} {args : Array Value} {below : List Frame} {meth : Method} {c : Code} {D : va_G} {ca : Nat → ClassId} {A : Nat → Prop} {a : Nat → Nat}  {P : Int64 → zz_I → zz_L → Prop} {I : zz_I} {L : zz_L} {x1 : Int32} {x2 : Int32} (X : zz_X p s m meth c cX8_begins RX8 (some .long) 8) (hA : ∀ q, s.heap.size ≤ q → A q)   (h : zp_X8_begins x1 x2 P I L) : zz_Go p l e ({ frames := 5, cells := 0, slots := 0, locals := 127 } : Room) s m args below meth c 0 0 (MQ below (zz_Ql D ca zz_dM A a P) args s 0 0 A) D ca zz_dM A 8 0 a [] [(0, .ref (a 0)), (1, .int x1), (2, .int x2)] I L := by
  obtain ⟨hx, hb, hml, hown, zw, hr, hlocks⟩ := id X
  intro H locs ls hB hl
  unfold zp_X8_begins at h
  refine lv_aload_n hx hb dX8_begins_0 rfl (lv_at hl 0 rfl) ?_
  refine lv_iconst (v := (0 : Int32)) hx hb dX8_begins_1 (by decide) ?_
  refine zz_puti hx hb hown zw hB zP_X8_94 zdM_0 rfl dX8_begins_2 (fun H locs hB => ?_)
  obtain ⟨I2, eI2⟩ : ∃ z : zz_I, z = zz_up I 0 0 (0 : Int32) := ⟨_, rfl⟩
  rw [← eI2] at hB
  have h := h I2 eI2
  refine lv_aload_n hx hb dX8_begins_5 rfl (lv_at hl 0 rfl) ?_
  refine lv_iload_n hx hb dX8_begins_6 rfl (lv_at hl 1 rfl) ?_
  refine zz_goip hB hA (zz_runV (As := [.int x1]) (rest := []) hx hb hml hown zw hB zM_X8_148 (zc_X8_noWord l D ca a I2 L H.size h) zdM_0 rfl rfl hl.1 rfl (Nat.le_of_ble_eq_true rfl) rfl rfl ⟨Nat.le_of_ble_eq_true rfl, Nat.le_of_ble_eq_true rfl⟩ dX8_begins_7 ⟨Nat.le_of_ble_eq_true rfl, Nat.le_of_ble_eq_true rfl⟩) (fun r7 H locs h hB => ?_)
  refine lv_if_ne (tgt := 21) hx hb dX8_begins_10 (by decide) (fun c10 => ?_) (fun c10 => ?_)
  · have h := h.1 c10
    refine lv_ldc2 (v := (-1 : Int64)) hx hb hown (zz_W_use zw zk_X8_250 rfl) dX8_begins_21 ?_
    exact zz_lret hx hb hr hlocks hB h dX8_begins_24
  · have h := h.2 c10
    refine lv_aload_n hx hb dX8_begins_13 rfl (lv_at hl 0 rfl) ?_
    refine lv_iload_n hx hb dX8_begins_14 rfl (lv_at hl 2 rfl) ?_
    refine zz_goip hB hA (zz_runV (As := [.int x2]) (rest := []) hx hb hml hown zw hB zM_X8_155 (zc_X8_noUnit l D ca a I2 L H.size h) zdM_0 rfl rfl hl.1 rfl (Nat.le_of_ble_eq_true rfl) rfl rfl ⟨Nat.le_of_ble_eq_true rfl, Nat.le_of_ble_eq_true rfl⟩ dX8_begins_15 ⟨Nat.le_of_ble_eq_true rfl, Nat.le_of_ble_eq_true rfl⟩) (fun r15 H locs h hB => ?_)
    refine lv_if_eq (tgt := 25) hx hb dX8_begins_18 (by decide) (fun c18 => ?_) (fun c18 => ?_)
    · have h := h.1 c18
      refine lv_aload_n hx hb dX8_begins_25 rfl (lv_at hl 0 rfl) ?_
      refine lv_aload_n hx hb dX8_begins_26 rfl (lv_at hl 0 rfl) ?_
      refine zz_getr (k' := 14) hx hb hown zw hB zF_X8_50 zdM_0 rfl rfl dX8_begins_27 ?_
      refine zz_gov hB hA (zz_runV (As := [.ref (a 14)]) (rest := []) hx hb hml hown zw hB zM_X8_203 (zc_X8_layFrom l D ca a I2 L H.size zdM_14 h) zdM_0 rfl rfl hl.1 rfl (Nat.le_of_ble_eq_true rfl) rfl rfl ⟨Nat.le_of_ble_eq_true rfl, Nat.le_of_ble_eq_true rfl⟩ dX8_begins_30 ⟨Nat.le_of_ble_eq_true rfl, Nat.le_of_ble_eq_true rfl⟩) (fun I30 L30 H locs h hB => ?_)
      refine lv_aload_n hx hb dX8_begins_33 rfl (lv_at hl 0 rfl) ?_
      refine lv_aload_n hx hb dX8_begins_34 rfl (lv_at hl 0 rfl) ?_
      refine zz_getr (k' := 14) hx hb hown zw hB zF_X8_50 zdM_0 rfl rfl dX8_begins_35 ?_
      refine zz_gov hB hA (zz_runV (As := [.ref (a 14)]) (rest := []) hx hb hml hown zw hB zM_X8_239 (zc_X8_layTo l D ca a I30 L30 H.size zdM_14 h) zdM_0 rfl rfl hl.1 rfl (Nat.le_of_ble_eq_true rfl) rfl rfl ⟨Nat.le_of_ble_eq_true rfl, Nat.le_of_ble_eq_true rfl⟩ dX8_begins_38 ⟨Nat.le_of_ble_eq_true rfl, Nat.le_of_ble_eq_true rfl⟩) (fun I38 L38 H locs h hB => ?_)
      refine lv_lconst (v := (0 : Int64)) hx hb dX8_begins_41 (by decide) ?_
      refine lv_lstore_n (lv' := [(3, .long (0 : Int64)), (0, .ref (a 0)), (1, .int x1), (2, .int x2)]) hx hb dX8_begins_42 rfl hl (by decide) rfl (fun ls hl => ?_)
      refine lv_iconst (v := (0 : Int32)) hx hb dX8_begins_43 (by decide) ?_
      refine lv_istore (lv' := [(5, .int (0 : Int32)), (3, .long (0 : Int64)), (0, .ref (a 0)), (1, .int x1), (2, .int x2)]) hx hb dX8_begins_44 hl (by decide) rfl (fun ls hl => ?_)
      exact zq_X8_begins_46 X hA  h H locs ls hB (lv_sub hl [2, 3, 4, 1, 0] rfl)
    · have h := h.2 c18
      refine lv_ldc2 (v := (-1 : Int64)) hx hb hown (zz_W_use zw zk_X8_250 rfl) dX8_begins_21 ?_
      exact zz_lret hx hb hr hlocks hB h dX8_begins_24
theorem zc_X8_begins (l : Launch) (D : va_G) (ca : Nat → ClassId) (a : Nat → Nat) (I : zz_I) (L : zz_L) (sz : Nat) {x1 : Int32} {x2 : Int32} {P : Int64 → zz_I → zz_L → Prop}  (h : zp_X8_begins x1 x2 P I L) : Met l yX8_begins [.code yX8_begins cX8_begins 8 (some .long)] ({ frames := 5, cells := 0, slots := 0, locals := 127 } : Room) (zz_Pre D ca zz_dM [.ref (a 0), .int x1, .int x2] a I L sz) (zz_Ql D ca zz_dM (zz_A ca zz_dM a I L sz) a P) 0 0 (zz_A ca zz_dM a I L sz) :=
  zz_start (by decide) (Nat.le_of_ble_eq_true rfl) (fun p e s m below meth c X hsz hA => zq_X8_begins X hA  h)
def zp_X8_carveOn_3b (K3 : Int32 → zz_I → zz_L → Prop) (P : zz_I → zz_L → Prop) (k1 : Nat) (x2 : Int32) (x3 : Int32) (x4 : Int32) (I : zz_I) (L : zz_L) : Prop := vp_in x3 7 ∧ (((I 2 x3.toNatClampNeg) ≤ x4 → P I L) ∧ (¬ (I 2 x3.toNatClampNeg) ≤ x4 → (¬ x4 = 0 → vp_in (((19 : Int32) + x2) + x4) 43 ∧ (∀ I33 : zz_I, I33 = zz_up I k1 (((19 : Int32) + x2) + x4).toNatClampNeg (8 : Int32) → (∀ v34 : Int32, v34 = x4 + (1 : Int32) → (K3 v34 I33 L)))) ∧ (x4 = 0 → vp_in (((19 : Int32) + x2) + x4) 43 ∧ (∀ I33 : zz_I, I33 = zz_up I k1 (((19 : Int32) + x2) + x4).toNatClampNeg x3 → (∀ v34 : Int32, v34 = x4 + (1 : Int32) → (K3 v34 I33 L))))))
set_option maxHeartbeats 4000000 in
set_option maxRecDepth 100000 in
theorem zq_X8_carveOn_3b {p : Program} {l : Launch} {e : Env} {s : State} {m : MethodId} {args : Array Value} {below : List Frame} {meth : Method} {c : Code} {D : va_G} {ca : Nat → ClassId} {A : Nat → Prop} {a : Nat → Nat} {K3 : Int32 → zz_I → zz_L → Prop} {P : zz_I → zz_L → Prop} {I : zz_I} {L : zz_L} {k1 : Nat} {x2 : Int32} {x3 : Int32} {x4 : Int32} (X : zz_X p s m meth c cX8_carveOn RX8 none 5) (hA : ∀ q, s.heap.size ≤ q → A q) (hk1 : zz_dM[k1]? = some (.inl (0, 43))) (hK3 : ∀ (y4 : Int32) (I8 : zz_I) (L8 : zz_L), K3 y4 I8 L8 → zz_Go p l e ({ frames := 0, cells := 0, slots := 0, locals := 0 } : Room) s m args below meth c 0 0 (MQ below (zz_Qv D ca zz_dM A a P) args s 0 0 A) D ca zz_dM A 5 3 a [] [(0, .ref (a 0)), (1, .ref (a k1)), (2, .int x2), (3, .int x3), (4, .int y4)] I8 L8) (h : zp_X8_carveOn_3b K3 P k1 x2 x3 x4 I L) : zz_Go p l e ({ frames := 0, cells := 0, slots := 0, locals := 0 } : Room) s m args below meth c 0 0 (MQ below (zz_Qv D ca zz_dM A a P) args s 0 0 A) D ca zz_dM A 5 3 a [] [(0, .ref (a 0)), (1, .ref (a k1)), (2, .int x2), (3, .int x3), (4, .int x4)] I L := by
  obtain ⟨hx, hb, hml, hown, zw, hr, hlocks⟩ := id X
  intro H locs ls hB hl
  unfold zp_X8_carveOn_3b at h
  refine lv_iload hx hb dX8_carveOn_3 (lv_at hl 4 rfl) ?_
  refine lv_aload_n hx hb dX8_carveOn_5 rfl (lv_at hl 0 rfl) ?_
  refine zz_getr (k' := 2) hx hb hown zw hB zF_X8_13 zdM_0 rfl rfl dX8_carveOn_6 ?_
  refine lv_iload_n hx hb dX8_carveOn_9 rfl (lv_at hl 3 rfl) ?_
  obtain ⟨hi10, h⟩ := h
  refine zz_iald hx hb hB zdM_2 hi10 dX8_carveOn_10 ?_
  refine lv_icmp_ge (tgt := 40) hx hb dX8_carveOn_11 (by decide) (fun c11 => ?_) (fun c11 => ?_)
  · have h := h.1 c11
    exact zz_vret hx hb hr hlocks hB h dX8_carveOn_40
  · have h := h.2 c11
    refine lv_aload_n hx hb dX8_carveOn_14 rfl (lv_at hl 1 rfl) ?_
    refine lv_bipush (v := (19 : Int32)) hx hb dX8_carveOn_15 (by decide) ?_
    refine lv_iload_n hx hb dX8_carveOn_17 rfl (lv_at hl 2 rfl) ?_
    refine lv_iadd hx hb dX8_carveOn_18 ?_
    refine lv_iload hx hb dX8_carveOn_19 (lv_at hl 4 rfl) ?_
    refine lv_iadd hx hb dX8_carveOn_21 ?_
    refine lv_iload hx hb dX8_carveOn_22 (lv_at hl 4 rfl) ?_
    refine lv_if_ne (tgt := 31) hx hb dX8_carveOn_24 (by decide) (fun c24 => ?_) (fun c24 => ?_)
    · have h := h.1 c24
      refine lv_bipush (v := (8 : Int32)) hx hb dX8_carveOn_31 (by decide) ?_
      obtain ⟨hi33, h⟩ := h
      refine zz_iast hx hb hB hk1 hi33 dX8_carveOn_33 (fun H locs hB => ?_)
      obtain ⟨I33, eI33⟩ : ∃ z : zz_I, z = zz_up I k1 (((19 : Int32) + x2) + x4).toNatClampNeg (8 : Int32) := ⟨_, rfl⟩
      rw [← eI33] at hB
      have h := h I33 eI33
      obtain ⟨v34, ev34⟩ : ∃ z : Int32, z = x4 + (1 : Int32) := ⟨_, rfl⟩
      have h := h v34 ev34
      refine lv_iinc (v := v34) (lv' := [(4, .int v34), (0, .ref (a 0)), (1, .ref (a k1)), (2, .int x2), (3, .int x3)]) hx hb dX8_carveOn_34 hl (k := 4) rfl (by rw [ev34]; rfl) (by decide) rfl (fun ls hl => ?_)
      refine lv_goto (tgt := 3) hx hb dX8_carveOn_37 (by decide) ?_
      exact hK3 _ _ _ h H locs ls hB (lv_sub hl [1, 2, 3, 4, 0] rfl)
    · have h := h.2 c24
      refine lv_iload_n hx hb dX8_carveOn_27 rfl (lv_at hl 3 rfl) ?_
      refine lv_goto (tgt := 33) hx hb dX8_carveOn_28 (by decide) ?_
      obtain ⟨hi33, h⟩ := h
      refine zz_iast hx hb hB hk1 hi33 dX8_carveOn_33 (fun H locs hB => ?_)
      obtain ⟨I33, eI33⟩ : ∃ z : zz_I, z = zz_up I k1 (((19 : Int32) + x2) + x4).toNatClampNeg x3 := ⟨_, rfl⟩
      rw [← eI33] at hB
      have h := h I33 eI33
      obtain ⟨v34, ev34⟩ : ∃ z : Int32, z = x4 + (1 : Int32) := ⟨_, rfl⟩
      have h := h v34 ev34
      refine lv_iinc (v := v34) (lv' := [(4, .int v34), (0, .ref (a 0)), (1, .ref (a k1)), (2, .int x2), (3, .int x3)]) hx hb dX8_carveOn_34 hl (k := 4) rfl (by rw [ev34]; rfl) (by decide) rfl (fun ls hl => ?_)
      refine lv_goto (tgt := 3) hx hb dX8_carveOn_37 (by decide) ?_
      exact hK3 _ _ _ h H locs ls hB (lv_sub hl [1, 2, 3, 4, 0] rfl)
def zp_X8_carveOn_3  (P : zz_I → zz_L → Prop) (k1 : Nat) (x2 : Int32) (x3 : Int32) (x4 : Int32) (I : zz_I) (L : zz_L) : Prop := ∃ (Inv : Int32 → zz_I → zz_L → Prop) (μ : Int32 → zz_I → zz_L → Nat), Inv x4 I L ∧ ∀ (y4 : Int32) (I8 : zz_I) (L8 : zz_L), Inv y4 I8 L8 → zp_X8_carveOn_3b  (fun z4 I7 L7 => Inv z4 I7 L7 ∧ μ z4 I7 L7 < μ y4 I8 L8) P k1 x2 x3 y4 I8 L8
set_option maxHeartbeats 4000000 in
set_option maxRecDepth 100000 in
theorem zq_X8_carveOn_3 {p : Program} {l : Launch} {e : Env} {s : State} {m : MethodId} {args : Array Value} {below : List Frame} {meth : Method} {c : Code} {D : va_G} {ca : Nat → ClassId} {A : Nat → Prop} {a : Nat → Nat}  {P : zz_I → zz_L → Prop} {I : zz_I} {L : zz_L} {k1 : Nat} {x2 : Int32} {x3 : Int32} {x4 : Int32} (X : zz_X p s m meth c cX8_carveOn RX8 none 5) (hA : ∀ q, s.heap.size ≤ q → A q) (hk1 : zz_dM[k1]? = some (.inl (0, 43)))  (h : zp_X8_carveOn_3  P k1 x2 x3 x4 I L) : zz_Go p l e ({ frames := 0, cells := 0, slots := 0, locals := 0 } : Room) s m args below meth c 0 0 (MQ below (zz_Qv D ca zz_dM A a P) args s 0 0 A) D ca zz_dM A 5 3 a [] [(0, .ref (a 0)), (1, .ref (a k1)), (2, .int x2), (3, .int x3), (4, .int x4)] I L := by
  unfold zp_X8_carveOn_3 at h
  obtain ⟨Inv, μ, hv0, hs⟩ := h
  have key : ∀ (n9 : Nat) (y4 : Int32) (I8 : zz_I) (L8 : zz_L), μ y4 I8 L8 < n9 → Inv y4 I8 L8 → zz_Go p l e ({ frames := 0, cells := 0, slots := 0, locals := 0 } : Room) s m args below meth c 0 0 (MQ below (zz_Qv D ca zz_dM A a P) args s 0 0 A) D ca zz_dM A 5 3 a [] [(0, .ref (a 0)), (1, .ref (a k1)), (2, .int x2), (3, .int x3), (4, .int y4)] I8 L8 := by
    intro n9
    induction n9 with
    | zero => intro y4 I8 L8 hn; exact absurd hn (Nat.not_lt_zero _)
    | succ n9 ih =>
      intro y4 I8 L8 hn hi
      exact zq_X8_carveOn_3b (K3 := (fun z4 I7 L7 => Inv z4 I7 L7 ∧ μ z4 I7 L7 < μ y4 I8 L8)) X hA hk1  (fun z4 I7 L7 hz => ih z4 I7 L7 (Nat.lt_of_lt_of_le hz.2 (Nat.le_of_lt_succ hn)) hz.1) (hs y4 I8 L8 hi)
  exact key _ x4 I L (Nat.lt_succ_self _) hv0
def zp_X8_carveOn (k1 : Nat) (x2 : Int32) (x3 : Int32) (P : zz_I → zz_L → Prop) (I : zz_I) (L : zz_L) : Prop := zp_X8_carveOn_3 P k1 x2 x3 (0 : Int32) I L
set_option maxHeartbeats 4000000 in
set_option maxRecDepth 100000 in
theorem zq_X8_carveOn {p : Program} {l : Launch} {e : Env} {s : State} {m : MethodId} {args : Array Value} {below : List Frame} {meth : Method} {c : Code} {D : va_G} {ca : Nat → ClassId} {A : Nat → Prop} {a : Nat → Nat}  {P : zz_I → zz_L → Prop} {I : zz_I} {L : zz_L} {k1 : Nat} {x2 : Int32} {x3 : Int32} (X : zz_X p s m meth c cX8_carveOn RX8 none 5) (hA : ∀ q, s.heap.size ≤ q → A q) (hk1 : zz_dM[k1]? = some (.inl (0, 43)))  (h : zp_X8_carveOn k1 x2 x3 P I L) : zz_Go p l e ({ frames := 0, cells := 0, slots := 0, locals := 0 } : Room) s m args below meth c 0 0 (MQ below (zz_Qv D ca zz_dM A a P) args s 0 0 A) D ca zz_dM A 5 0 a [] [(0, .ref (a 0)), (1, .ref (a k1)), (2, .int x2), (3, .int x3)] I L := by
  obtain ⟨hx, hb, hml, hown, zw, hr, hlocks⟩ := id X
  intro H locs ls hB hl
  unfold zp_X8_carveOn at h
  refine lv_iconst (v := (0 : Int32)) hx hb dX8_carveOn_0 (by decide) ?_
  refine lv_istore (lv' := [(4, .int (0 : Int32)), (0, .ref (a 0)), (1, .ref (a k1)), (2, .int x2), (3, .int x3)]) hx hb dX8_carveOn_1 hl (by decide) rfl (fun ls hl => ?_)
  exact zq_X8_carveOn_3 X hA hk1 h H locs ls hB (lv_sub hl [1, 2, 3, 4, 0] rfl)
theorem zc_X8_carveOn (l : Launch) (D : va_G) (ca : Nat → ClassId) (a : Nat → Nat) (I : zz_I) (L : zz_L) (sz : Nat) {k1 : Nat} {x2 : Int32} {x3 : Int32} {P : zz_I → zz_L → Prop} (hk1 : zz_dM[k1]? = some (.inl (0, 43))) (h : zp_X8_carveOn k1 x2 x3 P I L) : Met l yX8_carveOn [.code yX8_carveOn cX8_carveOn 5 none] ({ frames := 0, cells := 0, slots := 0, locals := 0 } : Room) (zz_Pre D ca zz_dM [.ref (a 0), .ref (a k1), .int x2, .int x3] a I L sz) (zz_Qv D ca zz_dM (zz_A ca zz_dM a I L sz) a P) 0 0 (zz_A ca zz_dM a I L sz) :=
  zz_start (by decide) (Nat.le_of_ble_eq_true rfl) (fun p e s m below meth c X hsz hA => zq_X8_carveOn X hA hk1 h)
def zp_X8_gaps_4b (K4 : Int32 → Int32 → Prop) (P : Int32 → Prop) (k1 : Nat) (x2 : Int32) (x3 : Int32) (I : zz_I) (L : zz_L) : Prop := vp_in (0 : Int32) 43 ∧ (((I k1 (0 : Int32).toNatClampNeg) ≤ x3 → P x2) ∧ (¬ (I k1 (0 : Int32).toNatClampNeg) ≤ x3 → vp_in ((19 : Int32) + x3) 43 ∧ ((¬ (I k1 ((19 : Int32) + x3).toNatClampNeg) = (7 : Int32) → ∀ v29 : Int32, v29 = x2 + (0 : Int32) → (∀ v30 : Int32, v30 = x3 + (1 : Int32) → (K4 v29 v30))) ∧ ((I k1 ((19 : Int32) + x3).toNatClampNeg) = (7 : Int32) → ∀ v29 : Int32, v29 = x2 + (1 : Int32) → (∀ v30 : Int32, v30 = x3 + (1 : Int32) → (K4 v29 v30))))))
set_option maxHeartbeats 4000000 in
set_option maxRecDepth 100000 in
theorem zq_X8_gaps_4b {p : Program} {l : Launch} {e : Env} {s : State} {m : MethodId} {args : Array Value} {below : List Frame} {meth : Method} {c : Code} {D : va_G} {ca : Nat → ClassId} {A : Nat → Prop} {a : Nat → Nat} {K4 : Int32 → Int32 → Prop} {P : Int32 → Prop} {I : zz_I} {L : zz_L} {k1 : Nat} {x2 : Int32} {x3 : Int32} (X : zz_X p s m meth c cX8_gaps RX8 (some .int) 4) (hA : ∀ q, s.heap.size ≤ q → A q) (hk1 : zz_dM[k1]? = some (.inl (0, 43))) (hK4 : ∀ (y2 : Int32) (y3 : Int32), K4 y2 y3 → zz_Go p l e ({ frames := 0, cells := 0, slots := 0, locals := 0 } : Room) s m args below meth c 0 0 (MQ below (zz_Qi D ca zz_dM A a (fun r I9 L9 => P r ∧ I9 = I ∧ L9 = L)) args s 0 0 A) D ca zz_dM A 4 4 a [] [(1, .ref (a k1)), (2, .int y2), (3, .int y3)] I L) (h : zp_X8_gaps_4b K4 P k1 x2 x3 I L) : zz_Go p l e ({ frames := 0, cells := 0, slots := 0, locals := 0 } : Room) s m args below meth c 0 0 (MQ below (zz_Qi D ca zz_dM A a (fun r I9 L9 => P r ∧ I9 = I ∧ L9 = L)) args s 0 0 A) D ca zz_dM A 4 4 a [] [(1, .ref (a k1)), (2, .int x2), (3, .int x3)] I L := by
  obtain ⟨hx, hb, hml, hown, zw, hr, hlocks⟩ := id X
  intro H locs ls hB hl
  unfold zp_X8_gaps_4b at h
  refine lv_iload_n hx hb dX8_gaps_4 rfl (lv_at hl 2 rfl) ?_
  refine lv_aload_n hx hb dX8_gaps_5 rfl (lv_at hl 0 rfl) ?_
  refine lv_iconst (v := (0 : Int32)) hx hb dX8_gaps_6 (by decide) ?_
  obtain ⟨hi7, h⟩ := h
  refine zz_iald hx hb hB hk1 hi7 dX8_gaps_7 ?_
  refine lv_icmp_ge (tgt := 36) hx hb dX8_gaps_8 (by decide) (fun c8 => ?_) (fun c8 => ?_)
  · have h := h.1 c8
    refine lv_iload_n hx hb dX8_gaps_36 rfl (lv_at hl 1 rfl) ?_
    exact zz_iret hx hb hr hlocks hB ⟨h, rfl, rfl⟩ dX8_gaps_37
  · have h := h.2 c8
    refine lv_iload_n hx hb dX8_gaps_11 rfl (lv_at hl 1 rfl) ?_
    refine lv_aload_n hx hb dX8_gaps_12 rfl (lv_at hl 0 rfl) ?_
    refine lv_bipush (v := (19 : Int32)) hx hb dX8_gaps_13 (by decide) ?_
    refine lv_iload_n hx hb dX8_gaps_15 rfl (lv_at hl 2 rfl) ?_
    refine lv_iadd hx hb dX8_gaps_16 ?_
    obtain ⟨hi17, h⟩ := h
    refine zz_iald hx hb hB hk1 hi17 dX8_gaps_17 ?_
    refine lv_bipush (v := (7 : Int32)) hx hb dX8_gaps_18 (by decide) ?_
    refine lv_icmp_ne (tgt := 27) hx hb dX8_gaps_20 (by decide) (fun c20 => ?_) (fun c20 => ?_)
    · have h := h.1 c20
      refine lv_iconst (v := (0 : Int32)) hx hb dX8_gaps_27 (by decide) ?_
      refine lv_iadd hx hb dX8_gaps_28 ?_
      refine lv_topi (fun v29 ev29 => ?_)
      have h := h v29 ev29
      refine lv_istore_n (lv' := [(2, .int v29), (1, .ref (a k1)), (3, .int x3)]) hx hb dX8_gaps_29 rfl hl (by decide) rfl (fun ls hl => ?_)
      obtain ⟨v30, ev30⟩ : ∃ z : Int32, z = x3 + (1 : Int32) := ⟨_, rfl⟩
      have h := h v30 ev30
      refine lv_iinc (v := v30) (lv' := [(3, .int v30), (2, .int v29), (1, .ref (a k1))]) hx hb dX8_gaps_30 hl (k := 2) rfl (by rw [ev30]; rfl) (by decide) rfl (fun ls hl => ?_)
      refine lv_goto (tgt := 4) hx hb dX8_gaps_33 (by decide) ?_
      exact hK4 _ _ h H locs ls hB (lv_sub hl [2, 1, 0] rfl)
    · have h := h.2 c20
      refine lv_iconst (v := (1 : Int32)) hx hb dX8_gaps_23 (by decide) ?_
      refine lv_goto (tgt := 28) hx hb dX8_gaps_24 (by decide) ?_
      refine lv_iadd hx hb dX8_gaps_28 ?_
      refine lv_topi (fun v29 ev29 => ?_)
      have h := h v29 ev29
      refine lv_istore_n (lv' := [(2, .int v29), (1, .ref (a k1)), (3, .int x3)]) hx hb dX8_gaps_29 rfl hl (by decide) rfl (fun ls hl => ?_)
      obtain ⟨v30, ev30⟩ : ∃ z : Int32, z = x3 + (1 : Int32) := ⟨_, rfl⟩
      have h := h v30 ev30
      refine lv_iinc (v := v30) (lv' := [(3, .int v30), (2, .int v29), (1, .ref (a k1))]) hx hb dX8_gaps_30 hl (k := 2) rfl (by rw [ev30]; rfl) (by decide) rfl (fun ls hl => ?_)
      refine lv_goto (tgt := 4) hx hb dX8_gaps_33 (by decide) ?_
      exact hK4 _ _ h H locs ls hB (lv_sub hl [2, 1, 0] rfl)
def zp_X8_gaps_4  (P : Int32 → Prop) (k1 : Nat) (x2 : Int32) (x3 : Int32) (I : zz_I) (L : zz_L) : Prop := ∃ (Inv : Int32 → Int32 → Prop) (μ : Int32 → Int32 → Nat), Inv x2 x3 ∧ ∀ (y2 : Int32) (y3 : Int32), Inv y2 y3 → zp_X8_gaps_4b  (fun z2 z3 => Inv z2 z3 ∧ μ z2 z3 < μ y2 y3) P k1 y2 y3 I L
set_option maxHeartbeats 4000000 in
set_option maxRecDepth 100000 in
theorem zq_X8_gaps_4 {p : Program} {l : Launch} {e : Env} {s : State} {m : MethodId} {args : Array Value} {below : List Frame} {meth : Method} {c : Code} {D : va_G} {ca : Nat → ClassId} {A : Nat → Prop} {a : Nat → Nat}  {P : Int32 → Prop} {I : zz_I} {L : zz_L} {k1 : Nat} {x2 : Int32} {x3 : Int32} (X : zz_X p s m meth c cX8_gaps RX8 (some .int) 4) (hA : ∀ q, s.heap.size ≤ q → A q) (hk1 : zz_dM[k1]? = some (.inl (0, 43)))  (h : zp_X8_gaps_4  P k1 x2 x3 I L) : zz_Go p l e ({ frames := 0, cells := 0, slots := 0, locals := 0 } : Room) s m args below meth c 0 0 (MQ below (zz_Qi D ca zz_dM A a (fun r I9 L9 => P r ∧ I9 = I ∧ L9 = L)) args s 0 0 A) D ca zz_dM A 4 4 a [] [(1, .ref (a k1)), (2, .int x2), (3, .int x3)] I L := by
  unfold zp_X8_gaps_4 at h
  obtain ⟨Inv, μ, hv0, hs⟩ := h
  have key : ∀ (n9 : Nat) (y2 : Int32) (y3 : Int32), μ y2 y3 < n9 → Inv y2 y3 → zz_Go p l e ({ frames := 0, cells := 0, slots := 0, locals := 0 } : Room) s m args below meth c 0 0 (MQ below (zz_Qi D ca zz_dM A a (fun r I9 L9 => P r ∧ I9 = I ∧ L9 = L)) args s 0 0 A) D ca zz_dM A 4 4 a [] [(1, .ref (a k1)), (2, .int y2), (3, .int y3)] I L := by
    intro n9
    induction n9 with
    | zero => intro y2 y3 hn; exact absurd hn (Nat.not_lt_zero _)
    | succ n9 ih =>
      intro y2 y3 hn hi
      exact zq_X8_gaps_4b (K4 := (fun z2 z3 => Inv z2 z3 ∧ μ z2 z3 < μ y2 y3)) X hA hk1  (fun z2 z3 hz => ih z2 z3 (Nat.lt_of_lt_of_le hz.2 (Nat.le_of_lt_succ hn)) hz.1) (hs y2 y3 hi)
  exact key _ x2 x3 (Nat.lt_succ_self _) hv0
def zp_X8_gaps (k1 : Nat) (P : Int32 → Prop) (I : zz_I) (L : zz_L) : Prop := zp_X8_gaps_4 P k1 (0 : Int32) (0 : Int32) I L
set_option maxHeartbeats 4000000 in
set_option maxRecDepth 100000 in
theorem zq_X8_gaps {p : Program} {l : Launch} {e : Env} {s : State} {m : MethodId} {args : Array Value} {below : List Frame} {meth : Method} {c : Code} {D : va_G} {ca : Nat → ClassId} {A : Nat → Prop} {a : Nat → Nat}  {P : Int32 → Prop} {I : zz_I} {L : zz_L} {k1 : Nat} (X : zz_X p s m meth c cX8_gaps RX8 (some .int) 4) (hA : ∀ q, s.heap.size ≤ q → A q) (hk1 : zz_dM[k1]? = some (.inl (0, 43)))  (h : zp_X8_gaps k1 P I L) : zz_Go p l e ({ frames := 0, cells := 0, slots := 0, locals := 0 } : Room) s m args below meth c 0 0 (MQ below (zz_Qi D ca zz_dM A a (fun r I9 L9 => P r ∧ I9 = I ∧ L9 = L)) args s 0 0 A) D ca zz_dM A 4 0 a [] [(0, .ref (a 0)), (1, .ref (a k1))] I L := by
  obtain ⟨hx, hb, hml, hown, zw, hr, hlocks⟩ := id X
  intro H locs ls hB hl
  unfold zp_X8_gaps at h
  refine lv_iconst (v := (0 : Int32)) hx hb dX8_gaps_0 (by decide) ?_
  refine lv_istore_n (lv' := [(2, .int (0 : Int32)), (0, .ref (a 0)), (1, .ref (a k1))]) hx hb dX8_gaps_1 rfl hl (by decide) rfl (fun ls hl => ?_)
  refine lv_iconst (v := (0 : Int32)) hx hb dX8_gaps_2 (by decide) ?_
  refine lv_istore_n (lv' := [(3, .int (0 : Int32)), (2, .int (0 : Int32)), (0, .ref (a 0)), (1, .ref (a k1))]) hx hb dX8_gaps_3 rfl hl (by decide) rfl (fun ls hl => ?_)
  exact zq_X8_gaps_4 X hA hk1 h H locs ls hB (lv_sub hl [3, 1, 0] rfl)
theorem zc_X8_gaps (l : Launch) (D : va_G) (ca : Nat → ClassId) (a : Nat → Nat) (I : zz_I) (L : zz_L) (sz : Nat) {k1 : Nat} {P : Int32 → Prop} (hk1 : zz_dM[k1]? = some (.inl (0, 43))) (h : zp_X8_gaps k1 P I L) : Met l yX8_gaps [.code yX8_gaps cX8_gaps 4 (some .int)] ({ frames := 0, cells := 0, slots := 0, locals := 0 } : Room) (zz_Pre D ca zz_dM [.ref (a 0), .ref (a k1)] a I L sz) (zz_Qi D ca zz_dM (zz_A ca zz_dM a I L sz) a (fun r I9 L9 => P r ∧ I9 = I ∧ L9 = L)) 0 0 (zz_A ca zz_dM a I L sz) :=
  zz_start (by decide) (Nat.le_of_ble_eq_true rfl) (fun p e s m below meth c X hsz hA => zq_X8_gaps X hA hk1 h)
def zp_X8_carve (x1 : Int32) (x2 : Int32) (P : Int32 → zz_I → zz_L → Prop) (I : zz_I) (L : zz_L) : Prop := ∀ I2 : zz_I, I2 = zz_up I 0 0 (0 : Int32) → (zp_X8_noUnit x1 (fun r7 => (r7 = 0 → zp_X8_in (x2.toInt64) (0 : Int64) (6 : Int64) (fun r21 => (¬ r21 = 0 → zp_X8_isInGaps 14 x1 x2 (fun r37 => (¬ r37 = 0 → zp_X8_note  (fun I47 L47 => zp_X8_carveOn 14 x1 x2 (fun I57 L57 => zp_X8_gaps 14 (fun r65 => P r65 I57 L57) I57 L57) I47 L47) I2 L) ∧ (r37 = 0 → P (-3 : Int32) I2 L)) I2 L) ∧ (r21 = 0 → P (-2 : Int32) I2 L)) I2 L) ∧ (¬ r7 = 0 → P (-1 : Int32) I2 L)) I2 L)
set_option maxHeartbeats 4000000 in
set_option maxRecDepth 100000 in
theorem zq_X8_carve {p : Program} {l : Launch} {e : Env} {s : State} {m : MethodId} {args : Array Value} {below : List Frame} {meth : Method} {c : Code} {D : va_G} {ca : Nat → ClassId} {A : Nat → Prop} {a : Nat → Nat}  {P : Int32 → zz_I → zz_L → Prop} {I : zz_I} {L : zz_L} {x1 : Int32} {x2 : Int32} (X : zz_X p s m meth c cX8_carve RX8 (some .int) 3) (hA : ∀ q, s.heap.size ≤ q → A q)   (h : zp_X8_carve x1 x2 P I L) : zz_Go p l e ({ frames := 2, cells := 0, slots := 0, locals := 46 } : Room) s m args below meth c 0 0 (MQ below (zz_Qi D ca zz_dM A a P) args s 0 0 A) D ca zz_dM A 3 0 a [] [(0, .ref (a 0)), (1, .int x1), (2, .int x2)] I L := by
  obtain ⟨hx, hb, hml, hown, zw, hr, hlocks⟩ := id X
  intro H locs ls hB hl
  unfold zp_X8_carve at h
  refine lv_aload_n hx hb dX8_carve_0 rfl (lv_at hl 0 rfl) ?_
  refine lv_iconst (v := (0 : Int32)) hx hb dX8_carve_1 (by decide) ?_
  refine zz_puti hx hb hown zw hB zP_X8_94 zdM_0 rfl dX8_carve_2 (fun H locs hB => ?_)
  obtain ⟨I2, eI2⟩ : ∃ z : zz_I, z = zz_up I 0 0 (0 : Int32) := ⟨_, rfl⟩
  rw [← eI2] at hB
  have h := h I2 eI2
  refine lv_aload_n hx hb dX8_carve_5 rfl (lv_at hl 0 rfl) ?_
  refine lv_iload_n hx hb dX8_carve_6 rfl (lv_at hl 1 rfl) ?_
  refine zz_goip hB hA (zz_runV (As := [.int x1]) (rest := []) hx hb hml hown zw hB zM_X8_155 (zc_X8_noUnit l D ca a I2 L H.size h) zdM_0 rfl rfl hl.1 rfl (Nat.le_of_ble_eq_true rfl) rfl rfl ⟨Nat.le_of_ble_eq_true rfl, Nat.le_of_ble_eq_true rfl⟩ dX8_carve_7 ⟨Nat.le_of_ble_eq_true rfl, Nat.le_of_ble_eq_true rfl⟩) (fun r7 H locs h hB => ?_)
  refine lv_if_eq (tgt := 15) hx hb dX8_carve_10 (by decide) (fun c10 => ?_) (fun c10 => ?_)
  · have h := h.1 c10
    refine lv_iload_n hx hb dX8_carve_15 rfl (lv_at hl 2 rfl) ?_
    refine lv_i2l (v := x2.toInt64) hx hb dX8_carve_16 rfl ?_
    refine lv_lconst (v := (0 : Int64)) hx hb dX8_carve_17 (by decide) ?_
    refine lv_ldc2 (v := (6 : Int64)) hx hb hown (zz_W_use zw zk_X8_174 rfl) dX8_carve_18 ?_
    refine zz_goip hB hA (zz_runS (As := [.long (x2.toInt64), .long (0 : Int64), .long (6 : Int64)]) (rest := []) hx hb hml hown zw hB zM_X8_101 (zc_X8_in l D ca a I2 L H.size h) rfl hl.1 rfl (Nat.le_of_ble_eq_true rfl) rfl rfl ⟨Nat.le_of_ble_eq_true rfl, Nat.le_of_ble_eq_true rfl⟩ dX8_carve_21 ⟨Nat.le_of_ble_eq_true rfl, Nat.le_of_ble_eq_true rfl⟩) (fun r21 H locs h hB => ?_)
    refine lv_if_ne (tgt := 30) hx hb dX8_carve_24 (by decide) (fun c24 => ?_) (fun c24 => ?_)
    · have h := h.1 c24
      refine lv_aload_n hx hb dX8_carve_30 rfl (lv_at hl 0 rfl) ?_
      refine lv_aload_n hx hb dX8_carve_31 rfl (lv_at hl 0 rfl) ?_
      refine zz_getr (k' := 14) hx hb hown zw hB zF_X8_50 zdM_0 rfl rfl dX8_carve_32 ?_
      refine lv_iload_n hx hb dX8_carve_35 rfl (lv_at hl 1 rfl) ?_
      refine lv_iload_n hx hb dX8_carve_36 rfl (lv_at hl 2 rfl) ?_
      refine zz_goip hB hA (zz_runV (As := [.ref (a 14), .int x1, .int x2]) (rest := []) hx hb hml hown zw hB zM_X8_160 (zc_X8_isInGaps l D ca a I2 L H.size zdM_14 h) zdM_0 rfl rfl hl.1 rfl (Nat.le_of_ble_eq_true rfl) rfl rfl ⟨Nat.le_of_ble_eq_true rfl, Nat.le_of_ble_eq_true rfl⟩ dX8_carve_37 ⟨Nat.le_of_ble_eq_true rfl, Nat.le_of_ble_eq_true rfl⟩) (fun r37 H locs h hB => ?_)
      refine lv_if_ne (tgt := 46) hx hb dX8_carve_40 (by decide) (fun c40 => ?_) (fun c40 => ?_)
      · have h := h.1 c40
        refine lv_aload_n hx hb dX8_carve_46 rfl (lv_at hl 0 rfl) ?_
        refine zz_gov hB hA (zz_runV (As := []) (rest := []) hx hb hml hown zw hB zM_X8_167 (zc_X8_note l D ca a I2 L H.size h) zdM_0 rfl rfl hl.1 rfl (Nat.le_of_ble_eq_true rfl) rfl rfl ⟨Nat.le_of_ble_eq_true rfl, Nat.le_of_ble_eq_true rfl⟩ dX8_carve_47 ⟨Nat.le_of_ble_eq_true rfl, Nat.le_of_ble_eq_true rfl⟩) (fun I47 L47 H locs h hB => ?_)
        refine lv_aload_n hx hb dX8_carve_50 rfl (lv_at hl 0 rfl) ?_
        refine lv_aload_n hx hb dX8_carve_51 rfl (lv_at hl 0 rfl) ?_
        refine zz_getr (k' := 14) hx hb hown zw hB zF_X8_50 zdM_0 rfl rfl dX8_carve_52 ?_
        refine lv_iload_n hx hb dX8_carve_55 rfl (lv_at hl 1 rfl) ?_
        refine lv_iload_n hx hb dX8_carve_56 rfl (lv_at hl 2 rfl) ?_
        refine zz_gov hB hA (zz_runV (As := [.ref (a 14), .int x1, .int x2]) (rest := []) hx hb hml hown zw hB zM_X8_176 (zc_X8_carveOn l D ca a I47 L47 H.size zdM_14 h) zdM_0 rfl rfl hl.1 rfl (Nat.le_of_ble_eq_true rfl) rfl rfl ⟨Nat.le_of_ble_eq_true rfl, Nat.le_of_ble_eq_true rfl⟩ dX8_carve_57 ⟨Nat.le_of_ble_eq_true rfl, Nat.le_of_ble_eq_true rfl⟩) (fun I57 L57 H locs h hB => ?_)
        refine lv_aload_n hx hb dX8_carve_60 rfl (lv_at hl 0 rfl) ?_
        refine lv_aload_n hx hb dX8_carve_61 rfl (lv_at hl 0 rfl) ?_
        refine zz_getr (k' := 14) hx hb hown zw hB zF_X8_50 zdM_0 rfl rfl dX8_carve_62 ?_
        refine zz_goip hB hA (zz_runV (As := [.ref (a 14)]) (rest := []) hx hb hml hown zw hB zM_X8_180 (zc_X8_gaps l D ca a I57 L57 H.size zdM_14 h) zdM_0 rfl rfl hl.1 rfl (Nat.le_of_ble_eq_true rfl) rfl rfl ⟨Nat.le_of_ble_eq_true rfl, Nat.le_of_ble_eq_true rfl⟩ dX8_carve_65 ⟨Nat.le_of_ble_eq_true rfl, Nat.le_of_ble_eq_true rfl⟩) (fun r65 H locs h hB => ?_)
        exact zz_iret hx hb hr hlocks hB h dX8_carve_68
      · have h := h.2 c40
        refine lv_bipush (v := (-3 : Int32)) hx hb dX8_carve_43 (by decide) ?_
        exact zz_iret hx hb hr hlocks hB h dX8_carve_45
    · have h := h.2 c24
      refine lv_bipush (v := (-2 : Int32)) hx hb dX8_carve_27 (by decide) ?_
      exact zz_iret hx hb hr hlocks hB h dX8_carve_29
  · have h := h.2 c10
    refine lv_iconst (v := (-1 : Int32)) hx hb dX8_carve_13 (by decide) ?_
    exact zz_iret hx hb hr hlocks hB h dX8_carve_14
theorem zc_X8_carve (l : Launch) (D : va_G) (ca : Nat → ClassId) (a : Nat → Nat) (I : zz_I) (L : zz_L) (sz : Nat) {x1 : Int32} {x2 : Int32} {P : Int32 → zz_I → zz_L → Prop}  (h : zp_X8_carve x1 x2 P I L) : Met l yX8_carve [.code yX8_carve cX8_carve 3 (some .int)] ({ frames := 2, cells := 0, slots := 0, locals := 46 } : Room) (zz_Pre D ca zz_dM [.ref (a 0), .int x1, .int x2] a I L sz) (zz_Qi D ca zz_dM (zz_A ca zz_dM a I L sz) a P) 0 0 (zz_A ca zz_dM a I L sz) :=
  zz_start (by decide) (Nat.le_of_ble_eq_true rfl) (fun p e s m below meth c X hsz hA => zq_X8_carve X hA  h)
def zp_X8_count (x1 : Int32) (P : Int32 → zz_I → zz_L → Prop) (I : zz_I) (L : zz_L) : Prop := ∀ I2 : zz_I, I2 = zz_up I 0 0 (0 : Int32) → ((x1 = (0 : Int32) → P (I2 0 2) I2 L) ∧ (x1 = (1 : Int32) → P (I2 0 5) I2 L) ∧ (x1 = (2 : Int32) → vp_in (0 : Int32) 43 ∧ (P (I2 14 (0 : Int32).toNatClampNeg) I2 L)) ∧ (x1 = (3 : Int32) → zp_X8_gaps 14 (fun r70 => P r70 I2 L) I2 L) ∧ (x1 = (4 : Int32) → vp_in (1 : Int32) 43 ∧ (P (I2 14 (1 : Int32).toNatClampNeg) I2 L)) ∧ (x1 = (5 : Int32) → P (I2 0 21) I2 L) ∧ (x1 = (6 : Int32) → P (I2 0 24) I2 L) ∧ (¬ x1 = (0 : Int32) → ¬ x1 = (1 : Int32) → ¬ x1 = (2 : Int32) → ¬ x1 = (3 : Int32) → ¬ x1 = (4 : Int32) → ¬ x1 = (5 : Int32) → ¬ x1 = (6 : Int32) → P (-2 : Int32) I2 L))
set_option maxHeartbeats 4000000 in
set_option maxRecDepth 100000 in
theorem zq_X8_count {p : Program} {l : Launch} {e : Env} {s : State} {m : MethodId} {args : Array Value} {below : List Frame} {meth : Method} {c : Code} {D : va_G} {ca : Nat → ClassId} {A : Nat → Prop} {a : Nat → Nat}  {P : Int32 → zz_I → zz_L → Prop} {I : zz_I} {L : zz_L} {x1 : Int32} (X : zz_X p s m meth c cX8_count RX8 (some .int) 2) (hA : ∀ q, s.heap.size ≤ q → A q)   (h : zp_X8_count x1 P I L) : zz_Go p l e ({ frames := 1, cells := 0, slots := 0, locals := 23 } : Room) s m args below meth c 0 0 (MQ below (zz_Qi D ca zz_dM A a P) args s 0 0 A) D ca zz_dM A 2 0 a [] [(0, .ref (a 0)), (1, .int x1)] I L := by
  obtain ⟨hx, hb, hml, hown, zw, hr, hlocks⟩ := id X
  intro H locs ls hB hl
  unfold zp_X8_count at h
  refine lv_aload_n hx hb dX8_count_0 rfl (lv_at hl 0 rfl) ?_
  refine lv_iconst (v := (0 : Int32)) hx hb dX8_count_1 (by decide) ?_
  refine zz_puti hx hb hown zw hB zP_X8_94 zdM_0 rfl dX8_count_2 (fun H locs hB => ?_)
  obtain ⟨I2, eI2⟩ : ∃ z : zz_I, z = zz_up I 0 0 (0 : Int32) := ⟨_, rfl⟩
  rw [← eI2] at hB
  have h := h I2 eI2
  refine lv_iload_n hx hb dX8_count_5 rfl (lv_at hl 1 rfl) ?_
  by_cases q6_0 : x1 = (0 : Int32)
  · have h := h.1 q6_0
    refine lv_tableIn (tgt := 48) hx hb dX8_count_6 (by rw [q6_0] <;> decide) (by rw [q6_0] <;> decide) (by rw [q6_0] <;> rfl) (by decide) ?_
    refine lv_aload_n hx hb dX8_count_48 rfl (lv_at hl 0 rfl) ?_
    refine zz_geti hx hb hown zw hB zF_X8_107 zdM_0 rfl dX8_count_49 ?_
    exact zz_iret hx hb hr hlocks hB h dX8_count_52
  by_cases q6_1 : x1 = (1 : Int32)
  · have h := h.2.1 q6_1
    refine lv_tableIn (tgt := 53) hx hb dX8_count_6 (by rw [q6_1] <;> decide) (by rw [q6_1] <;> decide) (by rw [q6_1] <;> rfl) (by decide) ?_
    refine lv_aload_n hx hb dX8_count_53 rfl (lv_at hl 0 rfl) ?_
    refine zz_geti hx hb hown zw hB zF_X8_98 zdM_0 rfl dX8_count_54 ?_
    exact zz_iret hx hb hr hlocks hB h dX8_count_57
  by_cases q6_2 : x1 = (2 : Int32)
  · have h := h.2.2.1 q6_2
    refine lv_tableIn (tgt := 58) hx hb dX8_count_6 (by rw [q6_2] <;> decide) (by rw [q6_2] <;> decide) (by rw [q6_2] <;> rfl) (by decide) ?_
    refine lv_aload_n hx hb dX8_count_58 rfl (lv_at hl 0 rfl) ?_
    refine zz_getr (k' := 14) hx hb hown zw hB zF_X8_50 zdM_0 rfl rfl dX8_count_59 ?_
    refine lv_iconst (v := (0 : Int32)) hx hb dX8_count_62 (by decide) ?_
    obtain ⟨hi63, h⟩ := h
    refine zz_iald hx hb hB zdM_14 hi63 dX8_count_63 ?_
    exact zz_iret hx hb hr hlocks hB h dX8_count_64
  by_cases q6_3 : x1 = (3 : Int32)
  · have h := h.2.2.2.1 q6_3
    refine lv_tableIn (tgt := 65) hx hb dX8_count_6 (by rw [q6_3] <;> decide) (by rw [q6_3] <;> decide) (by rw [q6_3] <;> rfl) (by decide) ?_
    refine lv_aload_n hx hb dX8_count_65 rfl (lv_at hl 0 rfl) ?_
    refine lv_aload_n hx hb dX8_count_66 rfl (lv_at hl 0 rfl) ?_
    refine zz_getr (k' := 14) hx hb hown zw hB zF_X8_50 zdM_0 rfl rfl dX8_count_67 ?_
    refine zz_goip hB hA (zz_runV (As := [.ref (a 14)]) (rest := []) hx hb hml hown zw hB zM_X8_180 (zc_X8_gaps l D ca a I2 L H.size zdM_14 h) zdM_0 rfl rfl hl.1 rfl (Nat.le_of_ble_eq_true rfl) rfl rfl ⟨Nat.le_of_ble_eq_true rfl, Nat.le_of_ble_eq_true rfl⟩ dX8_count_70 ⟨Nat.le_of_ble_eq_true rfl, Nat.le_of_ble_eq_true rfl⟩) (fun r70 H locs h hB => ?_)
    exact zz_iret hx hb hr hlocks hB h dX8_count_73
  by_cases q6_4 : x1 = (4 : Int32)
  · have h := h.2.2.2.2.1 q6_4
    refine lv_tableIn (tgt := 74) hx hb dX8_count_6 (by rw [q6_4] <;> decide) (by rw [q6_4] <;> decide) (by rw [q6_4] <;> rfl) (by decide) ?_
    refine lv_aload_n hx hb dX8_count_74 rfl (lv_at hl 0 rfl) ?_
    refine zz_getr (k' := 14) hx hb hown zw hB zF_X8_50 zdM_0 rfl rfl dX8_count_75 ?_
    refine lv_iconst (v := (1 : Int32)) hx hb dX8_count_78 (by decide) ?_
    obtain ⟨hi79, h⟩ := h
    refine zz_iald hx hb hB zdM_14 hi79 dX8_count_79 ?_
    exact zz_iret hx hb hr hlocks hB h dX8_count_80
  by_cases q6_5 : x1 = (5 : Int32)
  · have h := h.2.2.2.2.2.1 q6_5
    refine lv_tableIn (tgt := 81) hx hb dX8_count_6 (by rw [q6_5] <;> decide) (by rw [q6_5] <;> decide) (by rw [q6_5] <;> rfl) (by decide) ?_
    refine lv_aload_n hx hb dX8_count_81 rfl (lv_at hl 0 rfl) ?_
    refine zz_geti hx hb hown zw hB zF_X8_145 zdM_0 rfl dX8_count_82 ?_
    exact zz_iret hx hb hr hlocks hB h dX8_count_85
  by_cases q6_6 : x1 = (6 : Int32)
  · have h := h.2.2.2.2.2.2.1 q6_6
    refine lv_tableIn (tgt := 86) hx hb dX8_count_6 (by rw [q6_6] <;> decide) (by rw [q6_6] <;> decide) (by rw [q6_6] <;> rfl) (by decide) ?_
    refine lv_aload_n hx hb dX8_count_86 rfl (lv_at hl 0 rfl) ?_
    refine zz_geti hx hb hown zw hB zF_X8_196 zdM_0 rfl dX8_count_87 ?_
    exact zz_iret hx hb hr hlocks hB h dX8_count_90
  have h := h.2.2.2.2.2.2.2 q6_0 q6_1 q6_2 q6_3 q6_4 q6_5 q6_6
  have hts6 : x1.toInt < 0 ∨ 6 < x1.toInt := by
    have z0 := zz_ne_int q6_0
    have z1 := zz_ne_int q6_1
    have z2 := zz_ne_int q6_2
    have z3 := zz_ne_int q6_3
    have z4 := zz_ne_int q6_4
    have z5 := zz_ne_int q6_5
    have z6 := zz_ne_int q6_6
    have e0 : ((0 : Int32)).toInt = 0 ∧ ((1 : Int32)).toInt = 1 ∧ ((2 : Int32)).toInt = 2 ∧ ((3 : Int32)).toInt = 3 ∧ ((4 : Int32)).toInt = 4 ∧ ((5 : Int32)).toInt = 5 ∧ ((6 : Int32)).toInt = 6 := by decide
    omega
  refine lv_tableOut (tgt := 91) hx hb dX8_count_6 hts6 (by decide) ?_
  refine lv_bipush (v := (-2 : Int32)) hx hb dX8_count_91 (by decide) ?_
  exact zz_iret hx hb hr hlocks hB h dX8_count_93
theorem zc_X8_count (l : Launch) (D : va_G) (ca : Nat → ClassId) (a : Nat → Nat) (I : zz_I) (L : zz_L) (sz : Nat) {x1 : Int32} {P : Int32 → zz_I → zz_L → Prop}  (h : zp_X8_count x1 P I L) : Met l yX8_count [.code yX8_count cX8_count 2 (some .int)] ({ frames := 1, cells := 0, slots := 0, locals := 23 } : Room) (zz_Pre D ca zz_dM [.ref (a 0), .int x1] a I L sz) (zz_Qi D ca zz_dM (zz_A ca zz_dM a I L sz) a P) 0 0 (zz_A ca zz_dM a I L sz) :=
  zz_start (by decide) (Nat.le_of_ble_eq_true rfl) (fun p e s m below meth c X hsz hA => zq_X8_count X hA  h)
def zp_X8_divisor_17b (K17 : Int64 → Int64 → Prop) (P : Int64 → Prop) (x4 : Int64) (x6 : Int64) (I : zz_I) (L : zz_L) : Prop := (x6 = (0 : Int64) → P x4) ∧ (¬ x6 = (0 : Int64) → ¬ x6 = 0 ∧ (∀ v29 : Int64, v29 = x4 - x4 / x6 * x6 → (K17 x6 v29)))
set_option maxHeartbeats 4000000 in
set_option maxRecDepth 100000 in
theorem zq_X8_divisor_17b {p : Program} {l : Launch} {e : Env} {s : State} {m : MethodId} {args : Array Value} {below : List Frame} {meth : Method} {c : Code} {D : va_G} {ca : Nat → ClassId} {A : Nat → Prop} {a : Nat → Nat} {K17 : Int64 → Int64 → Prop} {P : Int64 → Prop} {I : zz_I} {L : zz_L} {x4 : Int64} {x6 : Int64} (X : zz_X p s m meth c cX8_divisor RX8 (some .long) 10) (hA : ∀ q, s.heap.size ≤ q → A q)  (hK17 : ∀ (y4 : Int64) (y6 : Int64), K17 y4 y6 → zz_Go p l e ({ frames := 0, cells := 0, slots := 0, locals := 0 } : Room) s m args below meth c 0 0 (MQ below (zz_Ql D ca zz_dM A a (fun r I9 L9 => P r ∧ I9 = I ∧ L9 = L)) args s 0 0 A) D ca zz_dM A 10 17 a [] [(4, .long y4), (6, .long y6)] I L) (h : zp_X8_divisor_17b K17 P x4 x6 I L) : zz_Go p l e ({ frames := 0, cells := 0, slots := 0, locals := 0 } : Room) s m args below meth c 0 0 (MQ below (zz_Ql D ca zz_dM A a (fun r I9 L9 => P r ∧ I9 = I ∧ L9 = L)) args s 0 0 A) D ca zz_dM A 10 17 a [] [(4, .long x4), (6, .long x6)] I L := by
  obtain ⟨hx, hb, hml, hown, zw, hr, hlocks⟩ := id X
  intro H locs ls hB hl
  unfold zp_X8_divisor_17b at h
  refine lv_lload hx hb dX8_divisor_17 (lv_at hl 1 rfl) ?_
  refine lv_lconst (v := (0 : Int64)) hx hb dX8_divisor_19 (by decide) ?_
  refine zz_l_eq (tgt := 42) hx hb dX8_divisor_20 dX8_divisor_21 (by decide) (fun c20 => ?_) (fun c20 => ?_)
  · have h := h.1 c20
    refine lv_lload hx hb dX8_divisor_42 (lv_at hl 0 rfl) ?_
    exact zz_lret hx hb hr hlocks hB ⟨h, rfl, rfl⟩ dX8_divisor_44
  · have h := h.2 c20
    refine lv_lload hx hb dX8_divisor_24 (lv_at hl 0 rfl) ?_
    refine lv_lload hx hb dX8_divisor_26 (lv_at hl 1 rfl) ?_
    obtain ⟨h28, h⟩ := h
    refine lv_lrem hx hb dX8_divisor_28 h28 ?_
    refine lv_topl (fun v29 ev29 => ?_)
    have h := h v29 ev29
    refine lv_lstore (lv' := [(8, .long v29), (4, .long x4), (6, .long x6)]) hx hb dX8_divisor_29 hl (by decide) rfl (fun ls hl => ?_)
    refine lv_lload hx hb dX8_divisor_31 (lv_at hl 2 rfl) ?_
    refine lv_lstore (lv' := [(4, .long x6), (8, .long v29), (6, .long x6)]) hx hb dX8_divisor_33 hl (by decide) rfl (fun ls hl => ?_)
    refine lv_lload hx hb dX8_divisor_35 (lv_at hl 1 rfl) ?_
    refine lv_lstore (lv' := [(6, .long v29), (4, .long x6), (8, .long v29)]) hx hb dX8_divisor_37 hl (by decide) rfl (fun ls hl => ?_)
    refine lv_goto (tgt := 17) hx hb dX8_divisor_39 (by decide) ?_
    exact hK17 _ _ h H locs ls hB (lv_sub hl [1, 0] rfl)
def zp_X8_divisor_17  (P : Int64 → Prop) (x4 : Int64) (x6 : Int64) (I : zz_I) (L : zz_L) : Prop := ∃ (Inv : Int64 → Int64 → Prop) (μ : Int64 → Int64 → Nat), Inv x4 x6 ∧ ∀ (y4 : Int64) (y6 : Int64), Inv y4 y6 → zp_X8_divisor_17b  (fun z4 z6 => Inv z4 z6 ∧ μ z4 z6 < μ y4 y6) P y4 y6 I L
set_option maxHeartbeats 4000000 in
set_option maxRecDepth 100000 in
theorem zq_X8_divisor_17 {p : Program} {l : Launch} {e : Env} {s : State} {m : MethodId} {args : Array Value} {below : List Frame} {meth : Method} {c : Code} {D : va_G} {ca : Nat → ClassId} {A : Nat → Prop} {a : Nat → Nat}  {P : Int64 → Prop} {I : zz_I} {L : zz_L} {x4 : Int64} {x6 : Int64} (X : zz_X p s m meth c cX8_divisor RX8 (some .long) 10) (hA : ∀ q, s.heap.size ≤ q → A q)   (h : zp_X8_divisor_17  P x4 x6 I L) : zz_Go p l e ({ frames := 0, cells := 0, slots := 0, locals := 0 } : Room) s m args below meth c 0 0 (MQ below (zz_Ql D ca zz_dM A a (fun r I9 L9 => P r ∧ I9 = I ∧ L9 = L)) args s 0 0 A) D ca zz_dM A 10 17 a [] [(4, .long x4), (6, .long x6)] I L := by
  unfold zp_X8_divisor_17 at h
  obtain ⟨Inv, μ, hv0, hs⟩ := h
  have key : ∀ (n9 : Nat) (y4 : Int64) (y6 : Int64), μ y4 y6 < n9 → Inv y4 y6 → zz_Go p l e ({ frames := 0, cells := 0, slots := 0, locals := 0 } : Room) s m args below meth c 0 0 (MQ below (zz_Ql D ca zz_dM A a (fun r I9 L9 => P r ∧ I9 = I ∧ L9 = L)) args s 0 0 A) D ca zz_dM A 10 17 a [] [(4, .long y4), (6, .long y6)] I L := by
    intro n9
    induction n9 with
    | zero => intro y4 y6 hn; exact absurd hn (Nat.not_lt_zero _)
    | succ n9 ih =>
      intro y4 y6 hn hi
      exact zq_X8_divisor_17b (K17 := (fun z4 z6 => Inv z4 z6 ∧ μ z4 z6 < μ y4 y6)) X hA   (fun z4 z6 hz => ih z4 z6 (Nat.lt_of_lt_of_le hz.2 (Nat.le_of_lt_succ hn)) hz.1) (hs y4 y6 hi)
  exact key _ x4 x6 (Nat.lt_succ_self _) hv0
def zp_X8_divisor (x0 : Int64) (x2 : Int64) (P : Int64 → Prop) (I : zz_I) (L : zz_L) : Prop := ((0 : Int64) ≤ x0 → zp_X8_divisor_17 P x0 x2 I L) ∧ (¬ (0 : Int64) ≤ x0 → ∀ v12 : Int64, v12 = -x0 → (zp_X8_divisor_17 P v12 x2 I L))
set_option maxHeartbeats 4000000 in
set_option maxRecDepth 100000 in
theorem zq_X8_divisor {p : Program} {l : Launch} {e : Env} {s : State} {m : MethodId} {args : Array Value} {below : List Frame} {meth : Method} {c : Code} {D : va_G} {ca : Nat → ClassId} {A : Nat → Prop} {a : Nat → Nat}  {P : Int64 → Prop} {I : zz_I} {L : zz_L} {x0 : Int64} {x2 : Int64} (X : zz_X p s m meth c cX8_divisor RX8 (some .long) 10) (hA : ∀ q, s.heap.size ≤ q → A q)   (h : zp_X8_divisor x0 x2 P I L) : zz_Go p l e ({ frames := 0, cells := 0, slots := 0, locals := 0 } : Room) s m args below meth c 0 0 (MQ below (zz_Ql D ca zz_dM A a (fun r I9 L9 => P r ∧ I9 = I ∧ L9 = L)) args s 0 0 A) D ca zz_dM A 10 0 a [] [(0, .long x0), (2, .long x2)] I L := by
  obtain ⟨hx, hb, hml, hown, zw, hr, hlocks⟩ := id X
  intro H locs ls hB hl
  unfold zp_X8_divisor at h
  refine lv_lload_n hx hb dX8_divisor_0 rfl (lv_at hl 0 rfl) ?_
  refine lv_lconst (v := (0 : Int64)) hx hb dX8_divisor_1 (by decide) ?_
  refine zz_l_ge (tgt := 11) hx hb dX8_divisor_2 dX8_divisor_3 (by decide) (fun c2 => ?_) (fun c2 => ?_)
  · have h := h.1 c2
    refine lv_lload_n hx hb dX8_divisor_11 rfl (lv_at hl 0 rfl) ?_
    refine lv_lstore (lv' := [(4, .long x0), (0, .long x0), (2, .long x2)]) hx hb dX8_divisor_12 hl (by decide) rfl (fun ls hl => ?_)
    refine lv_lload_n hx hb dX8_divisor_14 rfl (lv_at hl 2 rfl) ?_
    refine lv_lstore (lv' := [(6, .long x2), (4, .long x0), (0, .long x0), (2, .long x2)]) hx hb dX8_divisor_15 hl (by decide) rfl (fun ls hl => ?_)
    exact zq_X8_divisor_17 X hA  h H locs ls hB (lv_sub hl [1, 0] rfl)
  · have h := h.2 c2
    refine lv_lload_n hx hb dX8_divisor_6 rfl (lv_at hl 0 rfl) ?_
    refine lv_lneg hx hb dX8_divisor_7 ?_
    refine lv_goto (tgt := 12) hx hb dX8_divisor_8 (by decide) ?_
    refine lv_topl (fun v12 ev12 => ?_)
    have h := h v12 ev12
    refine lv_lstore (lv' := [(4, .long v12), (0, .long x0), (2, .long x2)]) hx hb dX8_divisor_12 hl (by decide) rfl (fun ls hl => ?_)
    refine lv_lload_n hx hb dX8_divisor_14 rfl (lv_at hl 2 rfl) ?_
    refine lv_lstore (lv' := [(6, .long x2), (4, .long v12), (0, .long x0), (2, .long x2)]) hx hb dX8_divisor_15 hl (by decide) rfl (fun ls hl => ?_)
    exact zq_X8_divisor_17 X hA  h H locs ls hB (lv_sub hl [1, 0] rfl)
theorem zc_X8_divisor (l : Launch) (D : va_G) (ca : Nat → ClassId) (a : Nat → Nat) (I : zz_I) (L : zz_L) (sz : Nat) {x0 : Int64} {x2 : Int64} {P : Int64 → Prop}  (h : zp_X8_divisor x0 x2 P I L) : Met l yX8_divisor [.code yX8_divisor cX8_divisor 10 (some .long)] ({ frames := 0, cells := 0, slots := 0, locals := 0 } : Room) (zz_Pre D ca zz_dM [.long x0, .long x2] a I L sz) (zz_Ql D ca zz_dM (zz_A ca zz_dM a I L sz) a (fun r I9 L9 => P r ∧ I9 = I ∧ L9 = L)) 0 0 (zz_A ca zz_dM a I L sz) :=
  zz_start (by decide) (Nat.le_of_ble_eq_true rfl) (fun p e s m below meth c X hsz hA => zq_X8_divisor X hA  h)
def zp_X8_wearOn_15b (K15 : Int32 → zz_I → zz_L → Prop) (P : zz_I → zz_L → Prop) (k1 : Nat) (x2 : Int32) (x3 : Int32) (x4 : Int32) (I : zz_I) (L : zz_L) : Prop := (x3 ≤ x4 → P I L) ∧ (¬ x3 ≤ x4 → vp_in (((19 : Int32) + x2) + x4) 43 ∧ (∀ I31 : zz_I, I31 = zz_up I k1 (((19 : Int32) + x2) + x4).toNatClampNeg (7 : Int32) → (∀ v32 : Int32, v32 = x4 + (1 : Int32) → (K15 v32 I31 L))))
set_option maxHeartbeats 4000000 in
set_option maxRecDepth 100000 in
theorem zq_X8_wearOn_15b {p : Program} {l : Launch} {e : Env} {s : State} {m : MethodId} {args : Array Value} {below : List Frame} {meth : Method} {c : Code} {D : va_G} {ca : Nat → ClassId} {A : Nat → Prop} {a : Nat → Nat} {K15 : Int32 → zz_I → zz_L → Prop} {P : zz_I → zz_L → Prop} {I : zz_I} {L : zz_L} {k1 : Nat} {x2 : Int32} {x3 : Int32} {x4 : Int32} (X : zz_X p s m meth c cX8_wearOn RX8 none 5) (hA : ∀ q, s.heap.size ≤ q → A q) (hk1 : zz_dM[k1]? = some (.inl (0, 43))) (hK15 : ∀ (y4 : Int32) (I8 : zz_I) (L8 : zz_L), K15 y4 I8 L8 → zz_Go p l e ({ frames := 0, cells := 0, slots := 0, locals := 0 } : Room) s m args below meth c 0 0 (MQ below (zz_Qv D ca zz_dM A a P) args s 0 0 A) D ca zz_dM A 5 15 a [] [(1, .ref (a k1)), (2, .int x2), (3, .int x3), (4, .int y4)] I8 L8) (h : zp_X8_wearOn_15b K15 P k1 x2 x3 x4 I L) : zz_Go p l e ({ frames := 0, cells := 0, slots := 0, locals := 0 } : Room) s m args below meth c 0 0 (MQ below (zz_Qv D ca zz_dM A a P) args s 0 0 A) D ca zz_dM A 5 15 a [] [(1, .ref (a k1)), (2, .int x2), (3, .int x3), (4, .int x4)] I L := by
  obtain ⟨hx, hb, hml, hown, zw, hr, hlocks⟩ := id X
  intro H locs ls hB hl
  unfold zp_X8_wearOn_15b at h
  refine lv_iload hx hb dX8_wearOn_15 (lv_at hl 3 rfl) ?_
  refine lv_iload_n hx hb dX8_wearOn_17 rfl (lv_at hl 2 rfl) ?_
  refine lv_icmp_ge (tgt := 38) hx hb dX8_wearOn_18 (by decide) (fun c18 => ?_) (fun c18 => ?_)
  · have h := h.1 c18
    exact zz_vret hx hb hr hlocks hB h dX8_wearOn_38
  · have h := h.2 c18
    refine lv_aload_n hx hb dX8_wearOn_21 rfl (lv_at hl 0 rfl) ?_
    refine lv_bipush (v := (19 : Int32)) hx hb dX8_wearOn_22 (by decide) ?_
    refine lv_iload_n hx hb dX8_wearOn_24 rfl (lv_at hl 1 rfl) ?_
    refine lv_iadd hx hb dX8_wearOn_25 ?_
    refine lv_iload hx hb dX8_wearOn_26 (lv_at hl 3 rfl) ?_
    refine lv_iadd hx hb dX8_wearOn_28 ?_
    refine lv_bipush (v := (7 : Int32)) hx hb dX8_wearOn_29 (by decide) ?_
    obtain ⟨hi31, h⟩ := h
    refine zz_iast hx hb hB hk1 hi31 dX8_wearOn_31 (fun H locs hB => ?_)
    obtain ⟨I31, eI31⟩ : ∃ z : zz_I, z = zz_up I k1 (((19 : Int32) + x2) + x4).toNatClampNeg (7 : Int32) := ⟨_, rfl⟩
    rw [← eI31] at hB
    have h := h I31 eI31
    obtain ⟨v32, ev32⟩ : ∃ z : Int32, z = x4 + (1 : Int32) := ⟨_, rfl⟩
    have h := h v32 ev32
    refine lv_iinc (v := v32) (lv' := [(4, .int v32), (1, .ref (a k1)), (2, .int x2), (3, .int x3)]) hx hb dX8_wearOn_32 hl (k := 3) rfl (by rw [ev32]; rfl) (by decide) rfl (fun ls hl => ?_)
    refine lv_goto (tgt := 15) hx hb dX8_wearOn_35 (by decide) ?_
    exact hK15 _ _ _ h H locs ls hB (lv_sub hl [1, 2, 3, 0] rfl)
def zp_X8_wearOn_15  (P : zz_I → zz_L → Prop) (k1 : Nat) (x2 : Int32) (x3 : Int32) (x4 : Int32) (I : zz_I) (L : zz_L) : Prop := ∃ (Inv : Int32 → zz_I → zz_L → Prop) (μ : Int32 → zz_I → zz_L → Nat), Inv x4 I L ∧ ∀ (y4 : Int32) (I8 : zz_I) (L8 : zz_L), Inv y4 I8 L8 → zp_X8_wearOn_15b  (fun z4 I7 L7 => Inv z4 I7 L7 ∧ μ z4 I7 L7 < μ y4 I8 L8) P k1 x2 x3 y4 I8 L8
set_option maxHeartbeats 4000000 in
set_option maxRecDepth 100000 in
theorem zq_X8_wearOn_15 {p : Program} {l : Launch} {e : Env} {s : State} {m : MethodId} {args : Array Value} {below : List Frame} {meth : Method} {c : Code} {D : va_G} {ca : Nat → ClassId} {A : Nat → Prop} {a : Nat → Nat}  {P : zz_I → zz_L → Prop} {I : zz_I} {L : zz_L} {k1 : Nat} {x2 : Int32} {x3 : Int32} {x4 : Int32} (X : zz_X p s m meth c cX8_wearOn RX8 none 5) (hA : ∀ q, s.heap.size ≤ q → A q) (hk1 : zz_dM[k1]? = some (.inl (0, 43)))  (h : zp_X8_wearOn_15  P k1 x2 x3 x4 I L) : zz_Go p l e ({ frames := 0, cells := 0, slots := 0, locals := 0 } : Room) s m args below meth c 0 0 (MQ below (zz_Qv D ca zz_dM A a P) args s 0 0 A) D ca zz_dM A 5 15 a [] [(1, .ref (a k1)), (2, .int x2), (3, .int x3), (4, .int x4)] I L := by
  unfold zp_X8_wearOn_15 at h
  obtain ⟨Inv, μ, hv0, hs⟩ := h
  have key : ∀ (n9 : Nat) (y4 : Int32) (I8 : zz_I) (L8 : zz_L), μ y4 I8 L8 < n9 → Inv y4 I8 L8 → zz_Go p l e ({ frames := 0, cells := 0, slots := 0, locals := 0 } : Room) s m args below meth c 0 0 (MQ below (zz_Qv D ca zz_dM A a P) args s 0 0 A) D ca zz_dM A 5 15 a [] [(1, .ref (a k1)), (2, .int x2), (3, .int x3), (4, .int y4)] I8 L8 := by
    intro n9
    induction n9 with
    | zero => intro y4 I8 L8 hn; exact absurd hn (Nat.not_lt_zero _)
    | succ n9 ih =>
      intro y4 I8 L8 hn hi
      exact zq_X8_wearOn_15b (K15 := (fun z4 I7 L7 => Inv z4 I7 L7 ∧ μ z4 I7 L7 < μ y4 I8 L8)) X hA hk1  (fun z4 I7 L7 hz => ih z4 I7 L7 (Nat.lt_of_lt_of_le hz.2 (Nat.le_of_lt_succ hn)) hz.1) (hs y4 I8 L8 hi)
  exact key _ x4 I L (Nat.lt_succ_self _) hv0
def zp_X8_wearOn (k1 : Nat) (x2 : Int32) (P : zz_I → zz_L → Prop) (I : zz_I) (L : zz_L) : Prop := vp_in ((19 : Int32) + x2) 43 ∧ (vp_in (I k1 ((19 : Int32) + x2).toNatClampNeg) 7 ∧ (∀ v11 : Int32, v11 = I 2 (I k1 ((19 : Int32) + x2).toNatClampNeg).toNatClampNeg → (zp_X8_wearOn_15 P k1 x2 v11 (0 : Int32) I L)))
set_option maxHeartbeats 4000000 in
set_option maxRecDepth 100000 in
theorem zq_X8_wearOn {p : Program} {l : Launch} {e : Env} {s : State} {m : MethodId} {args : Array Value} {below : List Frame} {meth : Method} {c : Code} {D : va_G} {ca : Nat → ClassId} {A : Nat → Prop} {a : Nat → Nat}  {P : zz_I → zz_L → Prop} {I : zz_I} {L : zz_L} {k1 : Nat} {x2 : Int32} (X : zz_X p s m meth c cX8_wearOn RX8 none 5) (hA : ∀ q, s.heap.size ≤ q → A q) (hk1 : zz_dM[k1]? = some (.inl (0, 43)))  (h : zp_X8_wearOn k1 x2 P I L) : zz_Go p l e ({ frames := 0, cells := 0, slots := 0, locals := 0 } : Room) s m args below meth c 0 0 (MQ below (zz_Qv D ca zz_dM A a P) args s 0 0 A) D ca zz_dM A 5 0 a [] [(0, .ref (a 0)), (1, .ref (a k1)), (2, .int x2)] I L := by
  obtain ⟨hx, hb, hml, hown, zw, hr, hlocks⟩ := id X
  intro H locs ls hB hl
  unfold zp_X8_wearOn at h
  refine lv_aload_n hx hb dX8_wearOn_0 rfl (lv_at hl 0 rfl) ?_
  refine zz_getr (k' := 2) hx hb hown zw hB zF_X8_13 zdM_0 rfl rfl dX8_wearOn_1 ?_
  refine lv_aload_n hx hb dX8_wearOn_4 rfl (lv_at hl 1 rfl) ?_
  refine lv_bipush (v := (19 : Int32)) hx hb dX8_wearOn_5 (by decide) ?_
  refine lv_iload_n hx hb dX8_wearOn_7 rfl (lv_at hl 2 rfl) ?_
  refine lv_iadd hx hb dX8_wearOn_8 ?_
  obtain ⟨hi9, h⟩ := h
  refine zz_iald hx hb hB hk1 hi9 dX8_wearOn_9 ?_
  obtain ⟨hi10, h⟩ := h
  refine zz_iald hx hb hB zdM_2 hi10 dX8_wearOn_10 ?_
  refine lv_topi (fun v11 ev11 => ?_)
  have h := h v11 ev11
  refine lv_istore_n (lv' := [(3, .int v11), (0, .ref (a 0)), (1, .ref (a k1)), (2, .int x2)]) hx hb dX8_wearOn_11 rfl hl (by decide) rfl (fun ls hl => ?_)
  refine lv_iconst (v := (0 : Int32)) hx hb dX8_wearOn_12 (by decide) ?_
  refine lv_istore (lv' := [(4, .int (0 : Int32)), (3, .int v11), (0, .ref (a 0)), (1, .ref (a k1)), (2, .int x2)]) hx hb dX8_wearOn_13 hl (by decide) rfl (fun ls hl => ?_)
  exact zq_X8_wearOn_15 X hA hk1 h H locs ls hB (lv_sub hl [3, 4, 1, 0] rfl)
theorem zc_X8_wearOn (l : Launch) (D : va_G) (ca : Nat → ClassId) (a : Nat → Nat) (I : zz_I) (L : zz_L) (sz : Nat) {k1 : Nat} {x2 : Int32} {P : zz_I → zz_L → Prop} (hk1 : zz_dM[k1]? = some (.inl (0, 43))) (h : zp_X8_wearOn k1 x2 P I L) : Met l yX8_wearOn [.code yX8_wearOn cX8_wearOn 5 none] ({ frames := 0, cells := 0, slots := 0, locals := 0 } : Room) (zz_Pre D ca zz_dM [.ref (a 0), .ref (a k1), .int x2] a I L sz) (zz_Qv D ca zz_dM (zz_A ca zz_dM a I L sz) a P) 0 0 (zz_A ca zz_dM a I L sz) :=
  zz_start (by decide) (Nat.le_of_ble_eq_true rfl) (fun p e s m below meth c X hsz hA => zq_X8_wearOn X hA hk1 h)
def zp_X8_hasAt_53 (K9 : Int32 → Int32 → Int32 → Prop) (P : Int32 → Prop) (k1 : Nat) (x2 : Int32) (x4 : Int32) (x5 : Int32) (x7 : Int32) (x8 : Int32) (s0 : Int32) (I : zz_I) (L : zz_L) : Prop := vp_in (((5 : Int32) * x2) + x8) 40 ∧ (vp_in (I 4 (((5 : Int32) * x2) + x8).toNatClampNeg) 7 ∧ (∀ v74 : Int32, v74 = x7 + (I 2 (I 4 (((5 : Int32) * x2) + x8).toNatClampNeg).toNatClampNeg) → (∀ v76 : Int32, v76 = x8 + (1 : Int32) → (K9 s0 v74 v76))))
set_option maxHeartbeats 4000000 in
set_option maxRecDepth 100000 in
theorem zq_X8_hasAt_53 {p : Program} {l : Launch} {e : Env} {s : State} {m : MethodId} {args : Array Value} {below : List Frame} {meth : Method} {c : Code} {D : va_G} {ca : Nat → ClassId} {A : Nat → Prop} {a : Nat → Nat} {K9 : Int32 → Int32 → Int32 → Prop} {P : Int32 → Prop} {I : zz_I} {L : zz_L} {k1 : Nat} {x2 : Int32} {x4 : Int32} {x5 : Int32} {x7 : Int32} {x8 : Int32} {s0 : Int32} (X : zz_X p s m meth c cX8_hasAt RX8 (some .boolean) 9) (hA : ∀ q, s.heap.size ≤ q → A q) (hk1 : zz_dM[k1]? = some (.inl (0, 43))) (hK9 : ∀ (y6 : Int32) (y7 : Int32) (y8 : Int32), K9 y6 y7 y8 → zz_Go p l e ({ frames := 0, cells := 0, slots := 0, locals := 0 } : Room) s m args below meth c 0 0 (MQ below (zz_Qi D ca zz_dM A a (fun r I9 L9 => P r ∧ I9 = I ∧ L9 = L)) args s 0 0 A) D ca zz_dM A 9 9 a [] [(0, .ref (a 0)), (1, .ref (a k1)), (2, .int x2), (4, .int x4), (5, .int x5), (6, .int y6), (7, .int y7), (8, .int y8)] I L) (h : zp_X8_hasAt_53 K9 P k1 x2 x4 x5 x7 x8 s0 I L) : zz_Go p l e ({ frames := 0, cells := 0, slots := 0, locals := 0 } : Room) s m args below meth c 0 0 (MQ below (zz_Qi D ca zz_dM A a (fun r I9 L9 => P r ∧ I9 = I ∧ L9 = L)) args s 0 0 A) D ca zz_dM A 9 53 a [.int s0] [(0, .ref (a 0)), (1, .ref (a k1)), (2, .int x2), (4, .int x4), (5, .int x5), (7, .int x7), (8, .int x8)] I L := by
  obtain ⟨hx, hb, hml, hown, zw, hr, hlocks⟩ := id X
  intro H locs ls hB hl
  unfold zp_X8_hasAt_53 at h
  refine lv_istore (lv' := [(6, .int s0), (0, .ref (a 0)), (1, .ref (a k1)), (2, .int x2), (4, .int x4), (5, .int x5), (7, .int x7), (8, .int x8)]) hx hb dX8_hasAt_53 hl (by decide) rfl (fun ls hl => ?_)
  refine lv_iload hx hb dX8_hasAt_55 (lv_at hl 6 rfl) ?_
  refine lv_aload_n hx hb dX8_hasAt_57 rfl (lv_at hl 1 rfl) ?_
  refine zz_getr (k' := 2) hx hb hown zw hB zF_X8_13 zdM_0 rfl rfl dX8_hasAt_58 ?_
  refine lv_aload_n hx hb dX8_hasAt_61 rfl (lv_at hl 1 rfl) ?_
  refine zz_getr (k' := 4) hx hb hown zw hB zF_X8_19 zdM_0 rfl rfl dX8_hasAt_62 ?_
  refine lv_iconst (v := (5 : Int32)) hx hb dX8_hasAt_65 (by decide) ?_
  refine lv_iload_n hx hb dX8_hasAt_66 rfl (lv_at hl 3 rfl) ?_
  refine lv_imul hx hb dX8_hasAt_67 ?_
  refine lv_iload hx hb dX8_hasAt_68 (lv_at hl 7 rfl) ?_
  refine lv_iadd hx hb dX8_hasAt_70 ?_
  obtain ⟨hi71, h⟩ := h
  refine zz_iald hx hb hB zdM_4 hi71 dX8_hasAt_71 ?_
  obtain ⟨hi72, h⟩ := h
  refine zz_iald hx hb hB zdM_2 hi72 dX8_hasAt_72 ?_
  refine lv_iadd hx hb dX8_hasAt_73 ?_
  refine lv_topi (fun v74 ev74 => ?_)
  have h := h v74 ev74
  refine lv_istore (lv' := [(7, .int v74), (6, .int s0), (0, .ref (a 0)), (1, .ref (a k1)), (2, .int x2), (4, .int x4), (5, .int x5), (8, .int x8)]) hx hb dX8_hasAt_74 hl (by decide) rfl (fun ls hl => ?_)
  obtain ⟨v76, ev76⟩ : ∃ z : Int32, z = x8 + (1 : Int32) := ⟨_, rfl⟩
  have h := h v76 ev76
  refine lv_iinc (v := v76) (lv' := [(8, .int v76), (7, .int v74), (6, .int s0), (0, .ref (a 0)), (1, .ref (a k1)), (2, .int x2), (4, .int x4), (5, .int x5)]) hx hb dX8_hasAt_76 hl (k := 7) rfl (by rw [ev76]; rfl) (by decide) rfl (fun ls hl => ?_)
  refine lv_goto (tgt := 9) hx hb dX8_hasAt_79 (by decide) ?_
  exact hK9 _ _ _ h H locs ls hB (lv_sub hl [3, 4, 5, 6, 7, 2, 1, 0] rfl)
def zp_X8_hasAt_9b (K9 : Int32 → Int32 → Int32 → Prop) (P : Int32 → Prop) (k1 : Nat) (x2 : Int32) (x4 : Int32) (x5 : Int32) (x6 : Int32) (x7 : Int32) (x8 : Int32) (I : zz_I) (L : zz_L) : Prop := vp_in x2 8 ∧ (((I 3 x2.toNatClampNeg) ≤ x8 → (¬ x6 = 0 → P (1 : Int32)) ∧ (x6 = 0 → (¬ x5 = (6 : Int32) → P (0 : Int32)) ∧ (x5 = (6 : Int32) → (¬ x7 = x4 → P (0 : Int32)) ∧ (x7 = x4 → vp_in (0 : Int32) 43 ∧ (((I k1 (0 : Int32).toNatClampNeg) ≤ x7 → P (0 : Int32)) ∧ (¬ (I k1 (0 : Int32).toNatClampNeg) ≤ x7 → P (1 : Int32))))))) ∧ (¬ (I 3 x2.toNatClampNeg) ≤ x8 → (¬ x6 = 0 → zp_X8_hasAt_53 K9 P k1 x2 x4 x5 x7 x8 (1 : Int32) I L) ∧ (x6 = 0 → (¬ x7 = x4 → zp_X8_hasAt_53 K9 P k1 x2 x4 x5 x7 x8 (0 : Int32) I L) ∧ (x7 = x4 → vp_in (((5 : Int32) * x2) + x8) 40 ∧ ((¬ (I 4 (((5 : Int32) * x2) + x8).toNatClampNeg) = x5 → zp_X8_hasAt_53 K9 P k1 x2 x4 x5 x7 x8 (0 : Int32) I L) ∧ ((I 4 (((5 : Int32) * x2) + x8).toNatClampNeg) = x5 → zp_X8_hasAt_53 K9 P k1 x2 x4 x5 x7 x8 (1 : Int32) I L))))))
set_option maxHeartbeats 4000000 in
set_option maxRecDepth 100000 in
theorem zq_X8_hasAt_9b {p : Program} {l : Launch} {e : Env} {s : State} {m : MethodId} {args : Array Value} {below : List Frame} {meth : Method} {c : Code} {D : va_G} {ca : Nat → ClassId} {A : Nat → Prop} {a : Nat → Nat} {K9 : Int32 → Int32 → Int32 → Prop} {P : Int32 → Prop} {I : zz_I} {L : zz_L} {k1 : Nat} {x2 : Int32} {x4 : Int32} {x5 : Int32} {x6 : Int32} {x7 : Int32} {x8 : Int32} (X : zz_X p s m meth c cX8_hasAt RX8 (some .boolean) 9) (hA : ∀ q, s.heap.size ≤ q → A q) (hk1 : zz_dM[k1]? = some (.inl (0, 43))) (hK9 : ∀ (y6 : Int32) (y7 : Int32) (y8 : Int32), K9 y6 y7 y8 → zz_Go p l e ({ frames := 0, cells := 0, slots := 0, locals := 0 } : Room) s m args below meth c 0 0 (MQ below (zz_Qi D ca zz_dM A a (fun r I9 L9 => P r ∧ I9 = I ∧ L9 = L)) args s 0 0 A) D ca zz_dM A 9 9 a [] [(0, .ref (a 0)), (1, .ref (a k1)), (2, .int x2), (4, .int x4), (5, .int x5), (6, .int y6), (7, .int y7), (8, .int y8)] I L) (h : zp_X8_hasAt_9b K9 P k1 x2 x4 x5 x6 x7 x8 I L) : zz_Go p l e ({ frames := 0, cells := 0, slots := 0, locals := 0 } : Room) s m args below meth c 0 0 (MQ below (zz_Qi D ca zz_dM A a (fun r I9 L9 => P r ∧ I9 = I ∧ L9 = L)) args s 0 0 A) D ca zz_dM A 9 9 a [] [(0, .ref (a 0)), (1, .ref (a k1)), (2, .int x2), (4, .int x4), (5, .int x5), (6, .int x6), (7, .int x7), (8, .int x8)] I L := by
  obtain ⟨hx, hb, hml, hown, zw, hr, hlocks⟩ := id X
  intro H locs ls hB hl
  unfold zp_X8_hasAt_9b at h
  refine lv_iload hx hb dX8_hasAt_9 (lv_at hl 7 rfl) ?_
  refine lv_aload_n hx hb dX8_hasAt_11 rfl (lv_at hl 0 rfl) ?_
  refine zz_getr (k' := 3) hx hb hown zw hB zF_X8_16 zdM_0 rfl rfl dX8_hasAt_12 ?_
  refine lv_iload_n hx hb dX8_hasAt_15 rfl (lv_at hl 2 rfl) ?_
  obtain ⟨hi16, h⟩ := h
  refine zz_iald hx hb hB zdM_3 hi16 dX8_hasAt_16 ?_
  refine lv_icmp_ge (tgt := 82) hx hb dX8_hasAt_17 (by decide) (fun c17 => ?_) (fun c17 => ?_)
  · have h := h.1 c17
    refine lv_iload hx hb dX8_hasAt_82 (lv_at hl 5 rfl) ?_
    refine lv_if_ne (tgt := 109) hx hb dX8_hasAt_84 (by decide) (fun c84 => ?_) (fun c84 => ?_)
    · have h := h.1 c84
      refine lv_iconst (v := (1 : Int32)) hx hb dX8_hasAt_109 (by decide) ?_
      refine lv_goto (tgt := 114) hx hb dX8_hasAt_110 (by decide) ?_
      exact zz_zret hx hb hr hlocks zz_bool1 hB ⟨h, rfl, rfl⟩ dX8_hasAt_114
    · have h := h.2 c84
      refine lv_iload hx hb dX8_hasAt_87 (lv_at hl 4 rfl) ?_
      refine lv_bipush (v := (6 : Int32)) hx hb dX8_hasAt_89 (by decide) ?_
      refine lv_icmp_ne (tgt := 113) hx hb dX8_hasAt_91 (by decide) (fun c91 => ?_) (fun c91 => ?_)
      · have h := h.1 c91
        refine lv_iconst (v := (0 : Int32)) hx hb dX8_hasAt_113 (by decide) ?_
        exact zz_zret hx hb hr hlocks zz_bool0 hB ⟨h, rfl, rfl⟩ dX8_hasAt_114
      · have h := h.2 c91
        refine lv_iload hx hb dX8_hasAt_94 (lv_at hl 6 rfl) ?_
        refine lv_iload hx hb dX8_hasAt_96 (lv_at hl 3 rfl) ?_
        refine lv_icmp_ne (tgt := 113) hx hb dX8_hasAt_98 (by decide) (fun c98 => ?_) (fun c98 => ?_)
        · have h := h.1 c98
          refine lv_iconst (v := (0 : Int32)) hx hb dX8_hasAt_113 (by decide) ?_
          exact zz_zret hx hb hr hlocks zz_bool0 hB ⟨h, rfl, rfl⟩ dX8_hasAt_114
        · have h := h.2 c98
          refine lv_iload hx hb dX8_hasAt_101 (lv_at hl 6 rfl) ?_
          refine lv_aload_n hx hb dX8_hasAt_103 rfl (lv_at hl 1 rfl) ?_
          refine lv_iconst (v := (0 : Int32)) hx hb dX8_hasAt_104 (by decide) ?_
          obtain ⟨hi105, h⟩ := h
          refine zz_iald hx hb hB hk1 hi105 dX8_hasAt_105 ?_
          refine lv_icmp_ge (tgt := 113) hx hb dX8_hasAt_106 (by decide) (fun c106 => ?_) (fun c106 => ?_)
          · have h := h.1 c106
            refine lv_iconst (v := (0 : Int32)) hx hb dX8_hasAt_113 (by decide) ?_
            exact zz_zret hx hb hr hlocks zz_bool0 hB ⟨h, rfl, rfl⟩ dX8_hasAt_114
          · have h := h.2 c106
            refine lv_iconst (v := (1 : Int32)) hx hb dX8_hasAt_109 (by decide) ?_
            refine lv_goto (tgt := 114) hx hb dX8_hasAt_110 (by decide) ?_
            exact zz_zret hx hb hr hlocks zz_bool1 hB ⟨h, rfl, rfl⟩ dX8_hasAt_114
  · have h := h.2 c17
    refine lv_iload hx hb dX8_hasAt_20 (lv_at hl 5 rfl) ?_
    refine lv_if_ne (tgt := 48) hx hb dX8_hasAt_22 (by decide) (fun c22 => ?_) (fun c22 => ?_)
    · have h := h.1 c22
      refine lv_iconst (v := (1 : Int32)) hx hb dX8_hasAt_48 (by decide) ?_
      refine lv_goto (tgt := 53) hx hb dX8_hasAt_49 (by decide) ?_
      exact zq_X8_hasAt_53 X hA hk1 hK9 h H locs ls hB (lv_sub hl [0, 1, 2, 3, 4, 6, 7] rfl)
    · have h := h.2 c22
      refine lv_iload hx hb dX8_hasAt_25 (lv_at hl 6 rfl) ?_
      refine lv_iload hx hb dX8_hasAt_27 (lv_at hl 3 rfl) ?_
      refine lv_icmp_ne (tgt := 52) hx hb dX8_hasAt_29 (by decide) (fun c29 => ?_) (fun c29 => ?_)
      · have h := h.1 c29
        refine lv_iconst (v := (0 : Int32)) hx hb dX8_hasAt_52 (by decide) ?_
        exact zq_X8_hasAt_53 X hA hk1 hK9 h H locs ls hB (lv_sub hl [0, 1, 2, 3, 4, 6, 7] rfl)
      · have h := h.2 c29
        refine lv_aload_n hx hb dX8_hasAt_32 rfl (lv_at hl 0 rfl) ?_
        refine zz_getr (k' := 4) hx hb hown zw hB zF_X8_19 zdM_0 rfl rfl dX8_hasAt_33 ?_
        refine lv_iconst (v := (5 : Int32)) hx hb dX8_hasAt_36 (by decide) ?_
        refine lv_iload_n hx hb dX8_hasAt_37 rfl (lv_at hl 2 rfl) ?_
        refine lv_imul hx hb dX8_hasAt_38 ?_
        refine lv_iload hx hb dX8_hasAt_39 (lv_at hl 7 rfl) ?_
        refine lv_iadd hx hb dX8_hasAt_41 ?_
        obtain ⟨hi42, h⟩ := h
        refine zz_iald hx hb hB zdM_4 hi42 dX8_hasAt_42 ?_
        refine lv_iload hx hb dX8_hasAt_43 (lv_at hl 4 rfl) ?_
        refine lv_icmp_ne (tgt := 52) hx hb dX8_hasAt_45 (by decide) (fun c45 => ?_) (fun c45 => ?_)
        · have h := h.1 c45
          refine lv_iconst (v := (0 : Int32)) hx hb dX8_hasAt_52 (by decide) ?_
          exact zq_X8_hasAt_53 X hA hk1 hK9 h H locs ls hB (lv_sub hl [0, 1, 2, 3, 4, 6, 7] rfl)
        · have h := h.2 c45
          refine lv_iconst (v := (1 : Int32)) hx hb dX8_hasAt_48 (by decide) ?_
          refine lv_goto (tgt := 53) hx hb dX8_hasAt_49 (by decide) ?_
          exact zq_X8_hasAt_53 X hA hk1 hK9 h H locs ls hB (lv_sub hl [0, 1, 2, 3, 4, 6, 7] rfl)
def zp_X8_hasAt_9  (P : Int32 → Prop) (k1 : Nat) (x2 : Int32) (x4 : Int32) (x5 : Int32) (x6 : Int32) (x7 : Int32) (x8 : Int32) (I : zz_I) (L : zz_L) : Prop := ∃ (Inv : Int32 → Int32 → Int32 → Prop) (μ : Int32 → Int32 → Int32 → Nat), Inv x6 x7 x8 ∧ ∀ (y6 : Int32) (y7 : Int32) (y8 : Int32), Inv y6 y7 y8 → zp_X8_hasAt_9b  (fun z6 z7 z8 => Inv z6 z7 z8 ∧ μ z6 z7 z8 < μ y6 y7 y8) P k1 x2 x4 x5 y6 y7 y8 I L
set_option maxHeartbeats 4000000 in
set_option maxRecDepth 100000 in
theorem zq_X8_hasAt_9 {p : Program} {l : Launch} {e : Env} {s : State} {m : MethodId} {args : Array Value} {below : List Frame} {meth : Method} {c : Code} {D : va_G} {ca : Nat → ClassId} {A : Nat → Prop} {a : Nat → Nat}  {P : Int32 → Prop} {I : zz_I} {L : zz_L} {k1 : Nat} {x2 : Int32} {x4 : Int32} {x5 : Int32} {x6 : Int32} {x7 : Int32} {x8 : Int32} (X : zz_X p s m meth c cX8_hasAt RX8 (some .boolean) 9) (hA : ∀ q, s.heap.size ≤ q → A q) (hk1 : zz_dM[k1]? = some (.inl (0, 43)))  (h : zp_X8_hasAt_9  P k1 x2 x4 x5 x6 x7 x8 I L) : zz_Go p l e ({ frames := 0, cells := 0, slots := 0, locals := 0 } : Room) s m args below meth c 0 0 (MQ below (zz_Qi D ca zz_dM A a (fun r I9 L9 => P r ∧ I9 = I ∧ L9 = L)) args s 0 0 A) D ca zz_dM A 9 9 a [] [(0, .ref (a 0)), (1, .ref (a k1)), (2, .int x2), (4, .int x4), (5, .int x5), (6, .int x6), (7, .int x7), (8, .int x8)] I L := by
  unfold zp_X8_hasAt_9 at h
  obtain ⟨Inv, μ, hv0, hs⟩ := h
  have key : ∀ (n9 : Nat) (y6 : Int32) (y7 : Int32) (y8 : Int32), μ y6 y7 y8 < n9 → Inv y6 y7 y8 → zz_Go p l e ({ frames := 0, cells := 0, slots := 0, locals := 0 } : Room) s m args below meth c 0 0 (MQ below (zz_Qi D ca zz_dM A a (fun r I9 L9 => P r ∧ I9 = I ∧ L9 = L)) args s 0 0 A) D ca zz_dM A 9 9 a [] [(0, .ref (a 0)), (1, .ref (a k1)), (2, .int x2), (4, .int x4), (5, .int x5), (6, .int y6), (7, .int y7), (8, .int y8)] I L := by
    intro n9
    induction n9 with
    | zero => intro y6 y7 y8 hn; exact absurd hn (Nat.not_lt_zero _)
    | succ n9 ih =>
      intro y6 y7 y8 hn hi
      exact zq_X8_hasAt_9b (K9 := (fun z6 z7 z8 => Inv z6 z7 z8 ∧ μ z6 z7 z8 < μ y6 y7 y8)) X hA hk1  (fun z6 z7 z8 hz => ih z6 z7 z8 (Nat.lt_of_lt_of_le hz.2 (Nat.le_of_lt_succ hn)) hz.1) (hs y6 y7 y8 hi)
  exact key _ x6 x7 x8 (Nat.lt_succ_self _) hv0
def zp_X8_hasAt (k1 : Nat) (x2 : Int32) (x3 : Int32) (x4 : Int32) (x5 : Int32) (P : Int32 → Prop) (I : zz_I) (L : zz_L) : Prop := zp_X8_hasAt_9 P k1 x2 x4 x5 (0 : Int32) x3 (0 : Int32) I L
set_option maxHeartbeats 4000000 in
set_option maxRecDepth 100000 in
theorem zq_X8_hasAt {p : Program} {l : Launch} {e : Env} {s : State} {m : MethodId} {args : Array Value} {below : List Frame} {meth : Method} {c : Code} {D : va_G} {ca : Nat → ClassId} {A : Nat → Prop} {a : Nat → Nat}  {P : Int32 → Prop} {I : zz_I} {L : zz_L} {k1 : Nat} {x2 : Int32} {x3 : Int32} {x4 : Int32} {x5 : Int32} (X : zz_X p s m meth c cX8_hasAt RX8 (some .boolean) 9) (hA : ∀ q, s.heap.size ≤ q → A q) (hk1 : zz_dM[k1]? = some (.inl (0, 43)))  (h : zp_X8_hasAt k1 x2 x3 x4 x5 P I L) : zz_Go p l e ({ frames := 0, cells := 0, slots := 0, locals := 0 } : Room) s m args below meth c 0 0 (MQ below (zz_Qi D ca zz_dM A a (fun r I9 L9 => P r ∧ I9 = I ∧ L9 = L)) args s 0 0 A) D ca zz_dM A 9 0 a [] [(0, .ref (a 0)), (1, .ref (a k1)), (2, .int x2), (3, .int x3), (4, .int x4), (5, .int x5)] I L := by
  obtain ⟨hx, hb, hml, hown, zw, hr, hlocks⟩ := id X
  intro H locs ls hB hl
  unfold zp_X8_hasAt at h
  refine lv_iconst (v := (0 : Int32)) hx hb dX8_hasAt_0 (by decide) ?_
  refine lv_istore (lv' := [(6, .int (0 : Int32)), (0, .ref (a 0)), (1, .ref (a k1)), (2, .int x2), (3, .int x3), (4, .int x4), (5, .int x5)]) hx hb dX8_hasAt_1 hl (by decide) rfl (fun ls hl => ?_)
  refine lv_iload_n hx hb dX8_hasAt_3 rfl (lv_at hl 4 rfl) ?_
  refine lv_istore (lv' := [(7, .int x3), (6, .int (0 : Int32)), (0, .ref (a 0)), (1, .ref (a k1)), (2, .int x2), (3, .int x3), (4, .int x4), (5, .int x5)]) hx hb dX8_hasAt_4 hl (by decide) rfl (fun ls hl => ?_)
  refine lv_iconst (v := (0 : Int32)) hx hb dX8_hasAt_6 (by decide) ?_
  refine lv_istore (lv' := [(8, .int (0 : Int32)), (7, .int x3), (6, .int (0 : Int32)), (0, .ref (a 0)), (1, .ref (a k1)), (2, .int x2), (3, .int x3), (4, .int x4), (5, .int x5)]) hx hb dX8_hasAt_7 hl (by decide) rfl (fun ls hl => ?_)
  exact zq_X8_hasAt_9 X hA hk1 h H locs ls hB (lv_sub hl [3, 4, 5, 7, 8, 2, 1, 0] rfl)
theorem zc_X8_hasAt (l : Launch) (D : va_G) (ca : Nat → ClassId) (a : Nat → Nat) (I : zz_I) (L : zz_L) (sz : Nat) {k1 : Nat} {x2 : Int32} {x3 : Int32} {x4 : Int32} {x5 : Int32} {P : Int32 → Prop} (hk1 : zz_dM[k1]? = some (.inl (0, 43))) (h : zp_X8_hasAt k1 x2 x3 x4 x5 P I L) : Met l yX8_hasAt [.code yX8_hasAt cX8_hasAt 9 (some .boolean)] ({ frames := 0, cells := 0, slots := 0, locals := 0 } : Room) (zz_Pre D ca zz_dM [.ref (a 0), .ref (a k1), .int x2, .int x3, .int x4, .int x5] a I L sz) (zz_Qi D ca zz_dM (zz_A ca zz_dM a I L sz) a (fun r I9 L9 => P r ∧ I9 = I ∧ L9 = L)) 0 0 (zz_A ca zz_dM a I L sz) :=
  zz_start (by decide) (Nat.le_of_ble_eq_true rfl) (fun p e s m below meth c X hsz hA => zq_X8_hasAt X hA hk1 h)
def zp_X8_standing_27b (K16 : Int64 → Int32 → Prop) (K27 : Int64 → Int32 → Prop) (P : Int64 → zz_I → zz_L → Prop) (k1 : Nat) (x2 : Int32) (x3 : Int32) (x4 : Int64) (x6 : Int32) (x7 : Int32) (I : zz_I) (L : zz_L) : Prop := (((9 : Int32) * (I 0 5)) ≤ x7 → ∀ v137 : Int32, v137 = x6 + (1 : Int32) → (K16 x4 v137)) ∧ (¬ ((9 : Int32) * (I 0 5)) ≤ x7 → ¬ (I 0 5) = 0 ∧ (∀ v46 : Int32, v46 = x7 / (I 0 5) → (¬ (I 0 5) = 0 ∧ (∀ v55 : Int32, v55 = x7 - x7 / (I 0 5) * (I 0 5) → (vp_in (((9 : Int32) * x6) + v46) 225 ∧ (((L 24 (((9 : Int32) * x6) + v46).toNatClampNeg) ≤ (0 : Int64) → ∀ v131 : Int32, v131 = x7 + (1 : Int32) → (K27 x4 v131)) ∧ (¬ (L 24 (((9 : Int32) * x6) + v46).toNatClampNeg) ≤ (0 : Int64) → zp_X8_fits k1 v55 x6 v46 (fun r83 => (r83 = 0 → ∀ v131 : Int32, v131 = x7 + (1 : Int32) → (K27 x4 v131)) ∧ (¬ r83 = 0 → zp_X8_hasAt k1 v55 x6 x2 x3 (fun r97 => (r97 = 0 → ∀ v131 : Int32, v131 = x7 + (1 : Int32) → (K27 x4 v131)) ∧ (¬ r97 = 0 → vp_in (((9 : Int32) * x6) + v46) 225 ∧ (zp_X8_behind k1 v55 x6 (fun r124 => ∀ v129 : Int64, v129 = x4 + ((L 24 (((9 : Int32) * x6) + v46).toNatClampNeg) * r124) → (∀ v131 : Int32, v131 = x7 + (1 : Int32) → (K27 v129 v131))) I L))) I L)) I L)))))))
set_option maxHeartbeats 4000000 in
set_option maxRecDepth 100000 in
theorem zq_X8_standing_27b {p : Program} {l : Launch} {e : Env} {s : State} {m : MethodId} {args : Array Value} {below : List Frame} {meth : Method} {c : Code} {D : va_G} {ca : Nat → ClassId} {A : Nat → Prop} {a : Nat → Nat} {K16 : Int64 → Int32 → Prop} {K27 : Int64 → Int32 → Prop} {P : Int64 → zz_I → zz_L → Prop} {I : zz_I} {L : zz_L} {k1 : Nat} {x2 : Int32} {x3 : Int32} {x4 : Int64} {x6 : Int32} {x7 : Int32} (X : zz_X p s m meth c cX8_standing RX8 (some .long) 10) (hA : ∀ q, s.heap.size ≤ q → A q) (hk1 : zz_dM[k1]? = some (.inl (0, 43))) (hK16 : ∀ (y4 : Int64) (y6 : Int32), K16 y4 y6 → zz_Go p l e ({ frames := 5, cells := 0, slots := 0, locals := 127 } : Room) s m args below meth c 0 0 (MQ below (zz_Ql D ca zz_dM A a P) args s 0 0 A) D ca zz_dM A 10 16 a [] [(0, .ref (a 0)), (1, .ref (a k1)), (2, .int x2), (3, .int x3), (4, .long y4), (6, .int y6)] I L) (hK27 : ∀ (y4 : Int64) (y7 : Int32), K27 y4 y7 → zz_Go p l e ({ frames := 5, cells := 0, slots := 0, locals := 127 } : Room) s m args below meth c 0 0 (MQ below (zz_Ql D ca zz_dM A a P) args s 0 0 A) D ca zz_dM A 10 27 a [] [(0, .ref (a 0)), (1, .ref (a k1)), (2, .int x2), (3, .int x3), (4, .long y4), (6, .int x6), (7, .int y7)] I L) (h : zp_X8_standing_27b K16 K27 P k1 x2 x3 x4 x6 x7 I L) : zz_Go p l e ({ frames := 5, cells := 0, slots := 0, locals := 127 } : Room) s m args below meth c 0 0 (MQ below (zz_Ql D ca zz_dM A a P) args s 0 0 A) D ca zz_dM A 10 27 a [] [(0, .ref (a 0)), (1, .ref (a k1)), (2, .int x2), (3, .int x3), (4, .long x4), (6, .int x6), (7, .int x7)] I L := by
  obtain ⟨hx, hb, hml, hown, zw, hr, hlocks⟩ := id X
  intro H locs ls hB hl
  unfold zp_X8_standing_27b at h
  refine lv_iload hx hb dX8_standing_27 (lv_at hl 6 rfl) ?_
  refine lv_bipush (v := (9 : Int32)) hx hb dX8_standing_29 (by decide) ?_
  refine lv_aload_n hx hb dX8_standing_31 rfl (lv_at hl 0 rfl) ?_
  refine zz_geti hx hb hown zw hB zF_X8_98 zdM_0 rfl dX8_standing_32 ?_
  refine lv_imul hx hb dX8_standing_35 ?_
  refine lv_icmp_ge (tgt := 137) hx hb dX8_standing_36 (by decide) (fun c36 => ?_) (fun c36 => ?_)
  · have h := h.1 c36
    obtain ⟨v137, ev137⟩ : ∃ z : Int32, z = x6 + (1 : Int32) := ⟨_, rfl⟩
    have h := h v137 ev137
    refine lv_iinc (v := v137) (lv' := [(6, .int v137), (0, .ref (a 0)), (1, .ref (a k1)), (2, .int x2), (3, .int x3), (4, .long x4), (7, .int x7)]) hx hb dX8_standing_137 hl (k := 5) rfl (by rw [ev137]; rfl) (by decide) rfl (fun ls hl => ?_)
    refine lv_goto (tgt := 16) hx hb dX8_standing_140 (by decide) ?_
    exact hK16 _ _ h H locs ls hB (lv_sub hl [1, 2, 3, 4, 5, 0] rfl)
  · have h := h.2 c36
    refine lv_iload hx hb dX8_standing_39 (lv_at hl 6 rfl) ?_
    refine lv_aload_n hx hb dX8_standing_41 rfl (lv_at hl 0 rfl) ?_
    refine zz_geti hx hb hown zw hB zF_X8_98 zdM_0 rfl dX8_standing_42 ?_
    obtain ⟨h45, h⟩ := h
    refine lv_idiv hx hb dX8_standing_45 h45 ?_
    refine lv_topi (fun v46 ev46 => ?_)
    have h := h v46 ev46
    refine lv_istore (lv' := [(8, .int v46), (0, .ref (a 0)), (1, .ref (a k1)), (2, .int x2), (3, .int x3), (4, .long x4), (6, .int x6), (7, .int x7)]) hx hb dX8_standing_46 hl (by decide) rfl (fun ls hl => ?_)
    refine lv_iload hx hb dX8_standing_48 (lv_at hl 7 rfl) ?_
    refine lv_aload_n hx hb dX8_standing_50 rfl (lv_at hl 1 rfl) ?_
    refine zz_geti hx hb hown zw hB zF_X8_98 zdM_0 rfl dX8_standing_51 ?_
    obtain ⟨h54, h⟩ := h
    refine lv_irem hx hb dX8_standing_54 h54 ?_
    refine lv_topi (fun v55 ev55 => ?_)
    have h := h v55 ev55
    refine lv_istore (lv' := [(9, .int v55), (8, .int v46), (0, .ref (a 0)), (1, .ref (a k1)), (2, .int x2), (3, .int x3), (4, .long x4), (6, .int x6), (7, .int x7)]) hx hb dX8_standing_55 hl (by decide) rfl (fun ls hl => ?_)
    refine lv_aload_n hx hb dX8_standing_57 rfl (lv_at hl 2 rfl) ?_
    refine zz_getr (k' := 24) hx hb hown zw hB zF_X8_81 zdM_0 rfl rfl dX8_standing_58 ?_
    refine lv_bipush (v := (9 : Int32)) hx hb dX8_standing_61 (by decide) ?_
    refine lv_iload hx hb dX8_standing_63 (lv_at hl 7 rfl) ?_
    refine lv_imul hx hb dX8_standing_65 ?_
    refine lv_iload hx hb dX8_standing_66 (lv_at hl 1 rfl) ?_
    refine lv_iadd hx hb dX8_standing_68 ?_
    obtain ⟨hi69, h⟩ := h
    refine zz_lald hx hb hB zdM_24 hi69 dX8_standing_69 ?_
    refine lv_lconst (v := (0 : Int64)) hx hb dX8_standing_70 (by decide) ?_
    refine zz_l_le (tgt := 131) hx hb dX8_standing_71 dX8_standing_72 (by decide) (fun c71 => ?_) (fun c71 => ?_)
    · have h := h.1 c71
      obtain ⟨v131, ev131⟩ : ∃ z : Int32, z = x7 + (1 : Int32) := ⟨_, rfl⟩
      have h := h v131 ev131
      refine lv_iinc (v := v131) (lv' := [(7, .int v131), (9, .int v55), (8, .int v46), (0, .ref (a 0)), (1, .ref (a k1)), (2, .int x2), (3, .int x3), (4, .long x4), (6, .int x6)]) hx hb dX8_standing_131 hl (k := 8) rfl (by rw [ev131]; rfl) (by decide) rfl (fun ls hl => ?_)
      refine lv_goto (tgt := 27) hx hb dX8_standing_134 (by decide) ?_
      exact hK27 _ _ h H locs ls hB (lv_sub hl [3, 4, 5, 6, 7, 8, 0] rfl)
    · have h := h.2 c71
      refine lv_aload_n hx hb dX8_standing_75 rfl (lv_at hl 2 rfl) ?_
      refine lv_aload_n hx hb dX8_standing_76 rfl (lv_at hl 3 rfl) ?_
      refine lv_iload hx hb dX8_standing_77 (lv_at hl 0 rfl) ?_
      refine lv_iload hx hb dX8_standing_79 (lv_at hl 7 rfl) ?_
      refine lv_iload hx hb dX8_standing_81 (lv_at hl 1 rfl) ?_
      refine zz_goip hB hA (zz_runV (As := [.ref (a k1), .int v55, .int x6, .int v46]) (rest := []) hx hb hml hown zw hB zM_X8_199 (zc_X8_fits l D ca a I L H.size hk1 h) zdM_0 rfl rfl hl.1 rfl (Nat.le_of_ble_eq_true rfl) rfl rfl ⟨Nat.le_of_ble_eq_true rfl, Nat.le_of_ble_eq_true rfl⟩ dX8_standing_83 ⟨Nat.le_of_ble_eq_true rfl, Nat.le_of_ble_eq_true rfl⟩) (fun r83 H locs h hB => ?_)
      refine lv_if_eq (tgt := 131) hx hb dX8_standing_86 (by decide) (fun c86 => ?_) (fun c86 => ?_)
      · have h := h.1 c86
        obtain ⟨v131, ev131⟩ : ∃ z : Int32, z = x7 + (1 : Int32) := ⟨_, rfl⟩
        have h := h v131 ev131
        refine lv_iinc (v := v131) (lv' := [(7, .int v131), (9, .int v55), (8, .int v46), (0, .ref (a 0)), (1, .ref (a k1)), (2, .int x2), (3, .int x3), (4, .long x4), (6, .int x6)]) hx hb dX8_standing_131 hl (k := 8) rfl (by rw [ev131]; rfl) (by decide) rfl (fun ls hl => ?_)
        refine lv_goto (tgt := 27) hx hb dX8_standing_134 (by decide) ?_
        exact hK27 _ _ h H locs ls hB (lv_sub hl [3, 4, 5, 6, 7, 8, 0] rfl)
      · have h := h.2 c86
        refine lv_aload_n hx hb dX8_standing_89 rfl (lv_at hl 2 rfl) ?_
        refine lv_aload_n hx hb dX8_standing_90 rfl (lv_at hl 3 rfl) ?_
        refine lv_iload hx hb dX8_standing_91 (lv_at hl 0 rfl) ?_
        refine lv_iload hx hb dX8_standing_93 (lv_at hl 7 rfl) ?_
        refine lv_iload_n hx hb dX8_standing_95 rfl (lv_at hl 4 rfl) ?_
        refine lv_iload_n hx hb dX8_standing_96 rfl (lv_at hl 5 rfl) ?_
        refine zz_goip hB hA (zz_runV (As := [.ref (a k1), .int v55, .int x6, .int x2, .int x3]) (rest := []) hx hb hml hown zw hB zM_X8_242 (zc_X8_hasAt l D ca a I L H.size hk1 h) zdM_0 rfl rfl hl.1 rfl (Nat.le_of_ble_eq_true rfl) rfl rfl ⟨Nat.le_of_ble_eq_true rfl, Nat.le_of_ble_eq_true rfl⟩ dX8_standing_97 ⟨Nat.le_of_ble_eq_true rfl, Nat.le_of_ble_eq_true rfl⟩) (fun r97 H locs h hB => ?_)
        refine lv_if_eq (tgt := 131) hx hb dX8_standing_100 (by decide) (fun c100 => ?_) (fun c100 => ?_)
        · have h := h.1 c100
          obtain ⟨v131, ev131⟩ : ∃ z : Int32, z = x7 + (1 : Int32) := ⟨_, rfl⟩
          have h := h v131 ev131
          refine lv_iinc (v := v131) (lv' := [(7, .int v131), (9, .int v55), (8, .int v46), (0, .ref (a 0)), (1, .ref (a k1)), (2, .int x2), (3, .int x3), (4, .long x4), (6, .int x6)]) hx hb dX8_standing_131 hl (k := 8) rfl (by rw [ev131]; rfl) (by decide) rfl (fun ls hl => ?_)
          refine lv_goto (tgt := 27) hx hb dX8_standing_134 (by decide) ?_
          exact hK27 _ _ h H locs ls hB (lv_sub hl [3, 4, 5, 6, 7, 8, 0] rfl)
        · have h := h.2 c100
          refine lv_lload hx hb dX8_standing_103 (lv_at hl 6 rfl) ?_
          refine lv_aload_n hx hb dX8_standing_105 rfl (lv_at hl 2 rfl) ?_
          refine zz_getr (k' := 24) hx hb hown zw hB zF_X8_81 zdM_0 rfl rfl dX8_standing_106 ?_
          refine lv_bipush (v := (9 : Int32)) hx hb dX8_standing_109 (by decide) ?_
          refine lv_iload hx hb dX8_standing_111 (lv_at hl 7 rfl) ?_
          refine lv_imul hx hb dX8_standing_113 ?_
          refine lv_iload hx hb dX8_standing_114 (lv_at hl 1 rfl) ?_
          refine lv_iadd hx hb dX8_standing_116 ?_
          obtain ⟨hi117, h⟩ := h
          refine zz_lald hx hb hB zdM_24 hi117 dX8_standing_117 ?_
          refine lv_aload_n hx hb dX8_standing_118 rfl (lv_at hl 2 rfl) ?_
          refine lv_aload_n hx hb dX8_standing_119 rfl (lv_at hl 3 rfl) ?_
          refine lv_iload hx hb dX8_standing_120 (lv_at hl 0 rfl) ?_
          refine lv_iload hx hb dX8_standing_122 (lv_at hl 7 rfl) ?_
          refine zz_golp hB hA (zz_runV (As := [.ref (a k1), .int v55, .int x6]) (rest := [.long (L 24 (((9 : Int32) * x6) + v46).toNatClampNeg), .long x4]) hx hb hml hown zw hB zM_X8_246 (zc_X8_behind l D ca a I L H.size hk1 h) zdM_0 rfl rfl hl.1 rfl (Nat.le_of_ble_eq_true rfl) rfl rfl ⟨Nat.le_of_ble_eq_true rfl, Nat.le_of_ble_eq_true rfl⟩ dX8_standing_124 ⟨Nat.le_of_ble_eq_true rfl, Nat.le_of_ble_eq_true rfl⟩) (fun r124 H locs h hB => ?_)
          refine lv_lmul hx hb dX8_standing_127 ?_
          refine lv_ladd hx hb dX8_standing_128 ?_
          refine lv_topl (fun v129 ev129 => ?_)
          have h := h v129 ev129
          refine lv_lstore (lv' := [(4, .long v129), (9, .int v55), (8, .int v46), (0, .ref (a 0)), (1, .ref (a k1)), (2, .int x2), (3, .int x3), (6, .int x6), (7, .int x7)]) hx hb dX8_standing_129 hl (by decide) rfl (fun ls hl => ?_)
          obtain ⟨v131, ev131⟩ : ∃ z : Int32, z = x7 + (1 : Int32) := ⟨_, rfl⟩
          have h := h v131 ev131
          refine lv_iinc (v := v131) (lv' := [(7, .int v131), (4, .long v129), (9, .int v55), (8, .int v46), (0, .ref (a 0)), (1, .ref (a k1)), (2, .int x2), (3, .int x3), (6, .int x6)]) hx hb dX8_standing_131 hl (k := 8) rfl (by rw [ev131]; rfl) (by decide) rfl (fun ls hl => ?_)
          refine lv_goto (tgt := 27) hx hb dX8_standing_134 (by decide) ?_
          exact hK27 _ _ h H locs ls hB (lv_sub hl [4, 5, 6, 7, 1, 8, 0] rfl)
def zp_X8_standing_27 (K16 : Int64 → Int32 → Prop) (P : Int64 → zz_I → zz_L → Prop) (k1 : Nat) (x2 : Int32) (x3 : Int32) (x4 : Int64) (x6 : Int32) (x7 : Int32) (I : zz_I) (L : zz_L) : Prop := ∃ (Inv : Int64 → Int32 → Prop) (μ : Int64 → Int32 → Nat), Inv x4 x7 ∧ ∀ (y4 : Int64) (y7 : Int32), Inv y4 y7 → zp_X8_standing_27b K16 (fun z4 z7 => Inv z4 z7 ∧ μ z4 z7 < μ y4 y7) P k1 x2 x3 y4 x6 y7 I L
set_option maxHeartbeats 4000000 in
set_option maxRecDepth 100000 in
theorem zq_X8_standing_27 {p : Program} {l : Launch} {e : Env} {s : State} {m : MethodId} {args : Array Value} {below : List Frame} {meth : Method} {c : Code} {D : va_G} {ca : Nat → ClassId} {A : Nat → Prop} {a : Nat → Nat} {K16 : Int64 → Int32 → Prop} {P : Int64 → zz_I → zz_L → Prop} {I : zz_I} {L : zz_L} {k1 : Nat} {x2 : Int32} {x3 : Int32} {x4 : Int64} {x6 : Int32} {x7 : Int32} (X : zz_X p s m meth c cX8_standing RX8 (some .long) 10) (hA : ∀ q, s.heap.size ≤ q → A q) (hk1 : zz_dM[k1]? = some (.inl (0, 43))) (hK16 : ∀ (y4 : Int64) (y6 : Int32), K16 y4 y6 → zz_Go p l e ({ frames := 5, cells := 0, slots := 0, locals := 127 } : Room) s m args below meth c 0 0 (MQ below (zz_Ql D ca zz_dM A a P) args s 0 0 A) D ca zz_dM A 10 16 a [] [(0, .ref (a 0)), (1, .ref (a k1)), (2, .int x2), (3, .int x3), (4, .long y4), (6, .int y6)] I L) (h : zp_X8_standing_27 K16 P k1 x2 x3 x4 x6 x7 I L) : zz_Go p l e ({ frames := 5, cells := 0, slots := 0, locals := 127 } : Room) s m args below meth c 0 0 (MQ below (zz_Ql D ca zz_dM A a P) args s 0 0 A) D ca zz_dM A 10 27 a [] [(0, .ref (a 0)), (1, .ref (a k1)), (2, .int x2), (3, .int x3), (4, .long x4), (6, .int x6), (7, .int x7)] I L := by
  unfold zp_X8_standing_27 at h
  obtain ⟨Inv, μ, hv0, hs⟩ := h
  have key : ∀ (n9 : Nat) (y4 : Int64) (y7 : Int32), μ y4 y7 < n9 → Inv y4 y7 → zz_Go p l e ({ frames := 5, cells := 0, slots := 0, locals := 127 } : Room) s m args below meth c 0 0 (MQ below (zz_Ql D ca zz_dM A a P) args s 0 0 A) D ca zz_dM A 10 27 a [] [(0, .ref (a 0)), (1, .ref (a k1)), (2, .int x2), (3, .int x3), (4, .long y4), (6, .int x6), (7, .int y7)] I L := by
    intro n9
    induction n9 with
    | zero => intro y4 y7 hn; exact absurd hn (Nat.not_lt_zero _)
    | succ n9 ih =>
      intro y4 y7 hn hi
      exact zq_X8_standing_27b (K27 := (fun z4 z7 => Inv z4 z7 ∧ μ z4 z7 < μ y4 y7)) X hA hk1 hK16 (fun z4 z7 hz => ih z4 z7 (Nat.lt_of_lt_of_le hz.2 (Nat.le_of_lt_succ hn)) hz.1) (hs y4 y7 hi)
  exact key _ x4 x7 (Nat.lt_succ_self _) hv0
def zp_X8_standing_16b (K16 : Int64 → Int32 → Prop) (P : Int64 → zz_I → zz_L → Prop) (k1 : Nat) (x2 : Int32) (x3 : Int32) (x4 : Int64) (x6 : Int32) (I : zz_I) (L : zz_L) : Prop := vp_in (0 : Int32) 43 ∧ (((I k1 (0 : Int32).toNatClampNeg) ≤ x6 → P x4 I L) ∧ (¬ (I k1 (0 : Int32).toNatClampNeg) ≤ x6 → zp_X8_standing_27 K16 P k1 x2 x3 x4 x6 (0 : Int32) I L))
set_option maxHeartbeats 4000000 in
set_option maxRecDepth 100000 in
theorem zq_X8_standing_16b {p : Program} {l : Launch} {e : Env} {s : State} {m : MethodId} {args : Array Value} {below : List Frame} {meth : Method} {c : Code} {D : va_G} {ca : Nat → ClassId} {A : Nat → Prop} {a : Nat → Nat} {K16 : Int64 → Int32 → Prop} {P : Int64 → zz_I → zz_L → Prop} {I : zz_I} {L : zz_L} {k1 : Nat} {x2 : Int32} {x3 : Int32} {x4 : Int64} {x6 : Int32} (X : zz_X p s m meth c cX8_standing RX8 (some .long) 10) (hA : ∀ q, s.heap.size ≤ q → A q) (hk1 : zz_dM[k1]? = some (.inl (0, 43))) (hK16 : ∀ (y4 : Int64) (y6 : Int32), K16 y4 y6 → zz_Go p l e ({ frames := 5, cells := 0, slots := 0, locals := 127 } : Room) s m args below meth c 0 0 (MQ below (zz_Ql D ca zz_dM A a P) args s 0 0 A) D ca zz_dM A 10 16 a [] [(0, .ref (a 0)), (1, .ref (a k1)), (2, .int x2), (3, .int x3), (4, .long y4), (6, .int y6)] I L) (h : zp_X8_standing_16b K16 P k1 x2 x3 x4 x6 I L) : zz_Go p l e ({ frames := 5, cells := 0, slots := 0, locals := 127 } : Room) s m args below meth c 0 0 (MQ below (zz_Ql D ca zz_dM A a P) args s 0 0 A) D ca zz_dM A 10 16 a [] [(0, .ref (a 0)), (1, .ref (a k1)), (2, .int x2), (3, .int x3), (4, .long x4), (6, .int x6)] I L := by
  obtain ⟨hx, hb, hml, hown, zw, hr, hlocks⟩ := id X
  intro H locs ls hB hl
  unfold zp_X8_standing_16b at h
  refine lv_iload hx hb dX8_standing_16 (lv_at hl 5 rfl) ?_
  refine lv_aload_n hx hb dX8_standing_18 rfl (lv_at hl 1 rfl) ?_
  refine lv_iconst (v := (0 : Int32)) hx hb dX8_standing_19 (by decide) ?_
  obtain ⟨hi20, h⟩ := h
  refine zz_iald hx hb hB hk1 hi20 dX8_standing_20 ?_
  refine lv_icmp_ge (tgt := 143) hx hb dX8_standing_21 (by decide) (fun c21 => ?_) (fun c21 => ?_)
  · have h := h.1 c21
    refine lv_lload hx hb dX8_standing_143 (lv_at hl 4 rfl) ?_
    exact zz_lret hx hb hr hlocks hB h dX8_standing_145
  · have h := h.2 c21
    refine lv_iconst (v := (0 : Int32)) hx hb dX8_standing_24 (by decide) ?_
    refine lv_istore (lv' := [(7, .int (0 : Int32)), (0, .ref (a 0)), (1, .ref (a k1)), (2, .int x2), (3, .int x3), (4, .long x4), (6, .int x6)]) hx hb dX8_standing_25 hl (by decide) rfl (fun ls hl => ?_)
    exact zq_X8_standing_27 X hA hk1 hK16 h H locs ls hB (lv_sub hl [1, 2, 3, 4, 5, 6, 0] rfl)
def zp_X8_standing_16  (P : Int64 → zz_I → zz_L → Prop) (k1 : Nat) (x2 : Int32) (x3 : Int32) (x4 : Int64) (x6 : Int32) (I : zz_I) (L : zz_L) : Prop := ∃ (Inv : Int64 → Int32 → Prop) (μ : Int64 → Int32 → Nat), Inv x4 x6 ∧ ∀ (y4 : Int64) (y6 : Int32), Inv y4 y6 → zp_X8_standing_16b  (fun z4 z6 => Inv z4 z6 ∧ μ z4 z6 < μ y4 y6) P k1 x2 x3 y4 y6 I L
set_option maxHeartbeats 4000000 in
set_option maxRecDepth 100000 in
theorem zq_X8_standing_16 {p : Program} {l : Launch} {e : Env} {s : State} {m : MethodId} {args : Array Value} {below : List Frame} {meth : Method} {c : Code} {D : va_G} {ca : Nat → ClassId} {A : Nat → Prop} {a : Nat → Nat}  {P : Int64 → zz_I → zz_L → Prop} {I : zz_I} {L : zz_L} {k1 : Nat} {x2 : Int32} {x3 : Int32} {x4 : Int64} {x6 : Int32} (X : zz_X p s m meth c cX8_standing RX8 (some .long) 10) (hA : ∀ q, s.heap.size ≤ q → A q) (hk1 : zz_dM[k1]? = some (.inl (0, 43)))  (h : zp_X8_standing_16  P k1 x2 x3 x4 x6 I L) : zz_Go p l e ({ frames := 5, cells := 0, slots := 0, locals := 127 } : Room) s m args below meth c 0 0 (MQ below (zz_Ql D ca zz_dM A a P) args s 0 0 A) D ca zz_dM A 10 16 a [] [(0, .ref (a 0)), (1, .ref (a k1)), (2, .int x2), (3, .int x3), (4, .long x4), (6, .int x6)] I L := by
  unfold zp_X8_standing_16 at h
  obtain ⟨Inv, μ, hv0, hs⟩ := h
  have key : ∀ (n9 : Nat) (y4 : Int64) (y6 : Int32), μ y4 y6 < n9 → Inv y4 y6 → zz_Go p l e ({ frames := 5, cells := 0, slots := 0, locals := 127 } : Room) s m args below meth c 0 0 (MQ below (zz_Ql D ca zz_dM A a P) args s 0 0 A) D ca zz_dM A 10 16 a [] [(0, .ref (a 0)), (1, .ref (a k1)), (2, .int x2), (3, .int x3), (4, .long y4), (6, .int y6)] I L := by
    intro n9
    induction n9 with
    | zero => intro y4 y6 hn; exact absurd hn (Nat.not_lt_zero _)
    | succ n9 ih =>
      intro y4 y6 hn hi
      exact zq_X8_standing_16b (K16 := (fun z4 z6 => Inv z4 z6 ∧ μ z4 z6 < μ y4 y6)) X hA hk1  (fun z4 z6 hz => ih z4 z6 (Nat.lt_of_lt_of_le hz.2 (Nat.le_of_lt_succ hn)) hz.1) (hs y4 y6 hi)
  exact key _ x4 x6 (Nat.lt_succ_self _) hv0
def zp_X8_standing (k1 : Nat) (x2 : Int32) (x3 : Int32) (P : Int64 → zz_I → zz_L → Prop) (I : zz_I) (L : zz_L) : Prop := zp_X8_layFrom k1 (fun I2 L2 => zp_X8_layTo k1 (fun I7 L7 => zp_X8_standing_16 P k1 x2 x3 (0 : Int64) (0 : Int32) I7 L7) I2 L2) I L
set_option maxHeartbeats 4000000 in
set_option maxRecDepth 100000 in
theorem zq_X8_standing {p : Program} {l : Launch} {e : Env} {s : State} {m : MethodId} {args : Array Value} {below : List Frame} {meth : Method} {c : Code} {D : va_G} {ca : Nat → ClassId} {A : Nat → Prop} {a : Nat → Nat}  {P : Int64 → zz_I → zz_L → Prop} {I : zz_I} {L : zz_L} {k1 : Nat} {x2 : Int32} {x3 : Int32} (X : zz_X p s m meth c cX8_standing RX8 (some .long) 10) (hA : ∀ q, s.heap.size ≤ q → A q) (hk1 : zz_dM[k1]? = some (.inl (0, 43)))  (h : zp_X8_standing k1 x2 x3 P I L) : zz_Go p l e ({ frames := 5, cells := 0, slots := 0, locals := 127 } : Room) s m args below meth c 0 0 (MQ below (zz_Ql D ca zz_dM A a P) args s 0 0 A) D ca zz_dM A 10 0 a [] [(0, .ref (a 0)), (1, .ref (a k1)), (2, .int x2), (3, .int x3)] I L := by
  obtain ⟨hx, hb, hml, hown, zw, hr, hlocks⟩ := id X
  intro H locs ls hB hl
  unfold zp_X8_standing at h
  refine lv_aload_n hx hb dX8_standing_0 rfl (lv_at hl 0 rfl) ?_
  refine lv_aload_n hx hb dX8_standing_1 rfl (lv_at hl 1 rfl) ?_
  refine zz_gov hB hA (zz_runV (As := [.ref (a k1)]) (rest := []) hx hb hml hown zw hB zM_X8_203 (zc_X8_layFrom l D ca a I L H.size hk1 h) zdM_0 rfl rfl hl.1 rfl (Nat.le_of_ble_eq_true rfl) rfl rfl ⟨Nat.le_of_ble_eq_true rfl, Nat.le_of_ble_eq_true rfl⟩ dX8_standing_2 ⟨Nat.le_of_ble_eq_true rfl, Nat.le_of_ble_eq_true rfl⟩) (fun I2 L2 H locs h hB => ?_)
  refine lv_aload_n hx hb dX8_standing_5 rfl (lv_at hl 0 rfl) ?_
  refine lv_aload_n hx hb dX8_standing_6 rfl (lv_at hl 1 rfl) ?_
  refine zz_gov hB hA (zz_runV (As := [.ref (a k1)]) (rest := []) hx hb hml hown zw hB zM_X8_239 (zc_X8_layTo l D ca a I2 L2 H.size hk1 h) zdM_0 rfl rfl hl.1 rfl (Nat.le_of_ble_eq_true rfl) rfl rfl ⟨Nat.le_of_ble_eq_true rfl, Nat.le_of_ble_eq_true rfl⟩ dX8_standing_7 ⟨Nat.le_of_ble_eq_true rfl, Nat.le_of_ble_eq_true rfl⟩) (fun I7 L7 H locs h hB => ?_)
  refine lv_lconst (v := (0 : Int64)) hx hb dX8_standing_10 (by decide) ?_
  refine lv_lstore (lv' := [(4, .long (0 : Int64)), (0, .ref (a 0)), (1, .ref (a k1)), (2, .int x2), (3, .int x3)]) hx hb dX8_standing_11 hl (by decide) rfl (fun ls hl => ?_)
  refine lv_iconst (v := (0 : Int32)) hx hb dX8_standing_13 (by decide) ?_
  refine lv_istore (lv' := [(6, .int (0 : Int32)), (4, .long (0 : Int64)), (0, .ref (a 0)), (1, .ref (a k1)), (2, .int x2), (3, .int x3)]) hx hb dX8_standing_14 hl (by decide) rfl (fun ls hl => ?_)
  exact zq_X8_standing_16 X hA hk1 h H locs ls hB (lv_sub hl [2, 3, 4, 5, 1, 0] rfl)
theorem zc_X8_standing (l : Launch) (D : va_G) (ca : Nat → ClassId) (a : Nat → Nat) (I : zz_I) (L : zz_L) (sz : Nat) {k1 : Nat} {x2 : Int32} {x3 : Int32} {P : Int64 → zz_I → zz_L → Prop} (hk1 : zz_dM[k1]? = some (.inl (0, 43))) (h : zp_X8_standing k1 x2 x3 P I L) : Met l yX8_standing [.code yX8_standing cX8_standing 10 (some .long)] ({ frames := 5, cells := 0, slots := 0, locals := 127 } : Room) (zz_Pre D ca zz_dM [.ref (a 0), .ref (a k1), .int x2, .int x3] a I L sz) (zz_Ql D ca zz_dM (zz_A ca zz_dM a I L sz) a P) 0 0 (zz_A ca zz_dM a I L sz) :=
  zz_start (by decide) (Nat.le_of_ble_eq_true rfl) (fun p e s m below meth c X hsz hA => zq_X8_standing X hA hk1 h)
def zp_X8_sureAt_13b (K13 : Int32 → Int32 → zz_I → zz_L → Prop) (P : Int32 → zz_I → zz_L → Prop) (k1 : Nat) (x2 : Int32) (x3 : Int64) (x5 : Int32) (x6 : Int32) (I : zz_I) (L : zz_L) : Prop := ((6 : Int32) < x6 → P x5 I L) ∧ (¬ (6 : Int32) < x6 → (x3 ≤ (0 : Int64) → ∀ v48 : Int32, v48 = x6 + (1 : Int32) → (K13 x5 v48 I L)) ∧ (¬ x3 ≤ (0 : Int64) → zp_X8_standing k1 x2 x6 (fun r31 I31 L31 => (¬ r31 = x3 → ∀ v48 : Int32, v48 = x6 + (1 : Int32) → (K13 x5 v48 I31 L31)) ∧ (r31 = x3 → ∀ v48 : Int32, v48 = x6 + (1 : Int32) → (K13 x6 v48 I31 L31))) I L))
set_option maxHeartbeats 4000000 in
set_option maxRecDepth 100000 in
theorem zq_X8_sureAt_13b {p : Program} {l : Launch} {e : Env} {s : State} {m : MethodId} {args : Array Value} {below : List Frame} {meth : Method} {c : Code} {D : va_G} {ca : Nat → ClassId} {A : Nat → Prop} {a : Nat → Nat} {K13 : Int32 → Int32 → zz_I → zz_L → Prop} {P : Int32 → zz_I → zz_L → Prop} {I : zz_I} {L : zz_L} {k1 : Nat} {x2 : Int32} {x3 : Int64} {x5 : Int32} {x6 : Int32} (X : zz_X p s m meth c cX8_sureAt RX8 (some .int) 7) (hA : ∀ q, s.heap.size ≤ q → A q) (hk1 : zz_dM[k1]? = some (.inl (0, 43))) (hK13 : ∀ (y5 : Int32) (y6 : Int32) (I8 : zz_I) (L8 : zz_L), K13 y5 y6 I8 L8 → zz_Go p l e ({ frames := 6, cells := 0, slots := 0, locals := 156 } : Room) s m args below meth c 0 0 (MQ below (zz_Qi D ca zz_dM A a P) args s 0 0 A) D ca zz_dM A 7 13 a [] [(0, .ref (a 0)), (1, .ref (a k1)), (2, .int x2), (3, .long x3), (5, .int y5), (6, .int y6)] I8 L8) (h : zp_X8_sureAt_13b K13 P k1 x2 x3 x5 x6 I L) : zz_Go p l e ({ frames := 6, cells := 0, slots := 0, locals := 156 } : Room) s m args below meth c 0 0 (MQ below (zz_Qi D ca zz_dM A a P) args s 0 0 A) D ca zz_dM A 7 13 a [] [(0, .ref (a 0)), (1, .ref (a k1)), (2, .int x2), (3, .long x3), (5, .int x5), (6, .int x6)] I L := by
  obtain ⟨hx, hb, hml, hown, zw, hr, hlocks⟩ := id X
  intro H locs ls hB hl
  unfold zp_X8_sureAt_13b at h
  refine lv_iload hx hb dX8_sureAt_13 (lv_at hl 5 rfl) ?_
  refine lv_bipush (v := (6 : Int32)) hx hb dX8_sureAt_15 (by decide) ?_
  refine lv_icmp_gt (tgt := 54) hx hb dX8_sureAt_17 (by decide) (fun c17 => ?_) (fun c17 => ?_)
  · have h := h.1 c17
    refine lv_iload hx hb dX8_sureAt_54 (lv_at hl 4 rfl) ?_
    exact zz_iret hx hb hr hlocks hB h dX8_sureAt_56
  · have h := h.2 c17
    refine lv_lload_n hx hb dX8_sureAt_20 rfl (lv_at hl 3 rfl) ?_
    refine lv_lconst (v := (0 : Int64)) hx hb dX8_sureAt_21 (by decide) ?_
    refine zz_l_le (tgt := 44) hx hb dX8_sureAt_22 dX8_sureAt_23 (by decide) (fun c22 => ?_) (fun c22 => ?_)
    · have h := h.1 c22
      refine lv_iload hx hb dX8_sureAt_44 (lv_at hl 4 rfl) ?_
      refine lv_istore (lv' := [(5, .int x5), (0, .ref (a 0)), (1, .ref (a k1)), (2, .int x2), (3, .long x3), (6, .int x6)]) hx hb dX8_sureAt_46 hl (by decide) rfl (fun ls hl => ?_)
      obtain ⟨v48, ev48⟩ : ∃ z : Int32, z = x6 + (1 : Int32) := ⟨_, rfl⟩
      have h := h v48 ev48
      refine lv_iinc (v := v48) (lv' := [(6, .int v48), (5, .int x5), (0, .ref (a 0)), (1, .ref (a k1)), (2, .int x2), (3, .long x3)]) hx hb dX8_sureAt_48 hl (k := 5) rfl (by rw [ev48]; rfl) (by decide) rfl (fun ls hl => ?_)
      refine lv_goto (tgt := 13) hx hb dX8_sureAt_51 (by decide) ?_
      exact hK13 _ _ _ _ h H locs ls hB (lv_sub hl [2, 3, 4, 5, 1, 0] rfl)
    · have h := h.2 c22
      refine lv_aload_n hx hb dX8_sureAt_26 rfl (lv_at hl 0 rfl) ?_
      refine lv_aload_n hx hb dX8_sureAt_27 rfl (lv_at hl 1 rfl) ?_
      refine lv_iload_n hx hb dX8_sureAt_28 rfl (lv_at hl 2 rfl) ?_
      refine lv_iload hx hb dX8_sureAt_29 (lv_at hl 5 rfl) ?_
      refine zz_gol hB hA (zz_runV (As := [.ref (a k1), .int x2, .int x6]) (rest := []) hx hb hml hown zw hB zM_X8_252 (zc_X8_standing l D ca a I L H.size hk1 h) zdM_0 rfl rfl hl.1 rfl (Nat.le_of_ble_eq_true rfl) rfl rfl ⟨Nat.le_of_ble_eq_true rfl, Nat.le_of_ble_eq_true rfl⟩ dX8_sureAt_31 ⟨Nat.le_of_ble_eq_true rfl, Nat.le_of_ble_eq_true rfl⟩) (fun r31 I31 L31 H locs h hB => ?_)
      refine lv_lload_n hx hb dX8_sureAt_34 rfl (lv_at hl 3 rfl) ?_
      refine zz_l_ne (tgt := 44) hx hb dX8_sureAt_35 dX8_sureAt_36 (by decide) (fun c35 => ?_) (fun c35 => ?_)
      · have h := h.1 c35
        refine lv_iload hx hb dX8_sureAt_44 (lv_at hl 4 rfl) ?_
        refine lv_istore (lv' := [(5, .int x5), (0, .ref (a 0)), (1, .ref (a k1)), (2, .int x2), (3, .long x3), (6, .int x6)]) hx hb dX8_sureAt_46 hl (by decide) rfl (fun ls hl => ?_)
        obtain ⟨v48, ev48⟩ : ∃ z : Int32, z = x6 + (1 : Int32) := ⟨_, rfl⟩
        have h := h v48 ev48
        refine lv_iinc (v := v48) (lv' := [(6, .int v48), (5, .int x5), (0, .ref (a 0)), (1, .ref (a k1)), (2, .int x2), (3, .long x3)]) hx hb dX8_sureAt_48 hl (k := 5) rfl (by rw [ev48]; rfl) (by decide) rfl (fun ls hl => ?_)
        refine lv_goto (tgt := 13) hx hb dX8_sureAt_51 (by decide) ?_
        exact hK13 _ _ _ _ h H locs ls hB (lv_sub hl [2, 3, 4, 5, 1, 0] rfl)
      · have h := h.2 c35
        refine lv_iload hx hb dX8_sureAt_39 (lv_at hl 5 rfl) ?_
        refine lv_goto (tgt := 46) hx hb dX8_sureAt_41 (by decide) ?_
        refine lv_istore (lv' := [(5, .int x6), (0, .ref (a 0)), (1, .ref (a k1)), (2, .int x2), (3, .long x3), (6, .int x6)]) hx hb dX8_sureAt_46 hl (by decide) rfl (fun ls hl => ?_)
        obtain ⟨v48, ev48⟩ : ∃ z : Int32, z = x6 + (1 : Int32) := ⟨_, rfl⟩
        have h := h v48 ev48
        refine lv_iinc (v := v48) (lv' := [(6, .int v48), (5, .int x6), (0, .ref (a 0)), (1, .ref (a k1)), (2, .int x2), (3, .long x3)]) hx hb dX8_sureAt_48 hl (k := 5) rfl (by rw [ev48]; rfl) (by decide) rfl (fun ls hl => ?_)
        refine lv_goto (tgt := 13) hx hb dX8_sureAt_51 (by decide) ?_
        exact hK13 _ _ _ _ h H locs ls hB (lv_sub hl [2, 3, 4, 5, 1, 0] rfl)
def zp_X8_sureAt_13  (P : Int32 → zz_I → zz_L → Prop) (k1 : Nat) (x2 : Int32) (x3 : Int64) (x5 : Int32) (x6 : Int32) (I : zz_I) (L : zz_L) : Prop := ∃ (Inv : Int32 → Int32 → zz_I → zz_L → Prop) (μ : Int32 → Int32 → zz_I → zz_L → Nat), Inv x5 x6 I L ∧ ∀ (y5 : Int32) (y6 : Int32) (I8 : zz_I) (L8 : zz_L), Inv y5 y6 I8 L8 → zp_X8_sureAt_13b  (fun z5 z6 I7 L7 => Inv z5 z6 I7 L7 ∧ μ z5 z6 I7 L7 < μ y5 y6 I8 L8) P k1 x2 x3 y5 y6 I8 L8
set_option maxHeartbeats 4000000 in
set_option maxRecDepth 100000 in
theorem zq_X8_sureAt_13 {p : Program} {l : Launch} {e : Env} {s : State} {m : MethodId} {args : Array Value} {below : List Frame} {meth : Method} {c : Code} {D : va_G} {ca : Nat → ClassId} {A : Nat → Prop} {a : Nat → Nat}  {P : Int32 → zz_I → zz_L → Prop} {I : zz_I} {L : zz_L} {k1 : Nat} {x2 : Int32} {x3 : Int64} {x5 : Int32} {x6 : Int32} (X : zz_X p s m meth c cX8_sureAt RX8 (some .int) 7) (hA : ∀ q, s.heap.size ≤ q → A q) (hk1 : zz_dM[k1]? = some (.inl (0, 43)))  (h : zp_X8_sureAt_13  P k1 x2 x3 x5 x6 I L) : zz_Go p l e ({ frames := 6, cells := 0, slots := 0, locals := 156 } : Room) s m args below meth c 0 0 (MQ below (zz_Qi D ca zz_dM A a P) args s 0 0 A) D ca zz_dM A 7 13 a [] [(0, .ref (a 0)), (1, .ref (a k1)), (2, .int x2), (3, .long x3), (5, .int x5), (6, .int x6)] I L := by
  unfold zp_X8_sureAt_13 at h
  obtain ⟨Inv, μ, hv0, hs⟩ := h
  have key : ∀ (n9 : Nat) (y5 : Int32) (y6 : Int32) (I8 : zz_I) (L8 : zz_L), μ y5 y6 I8 L8 < n9 → Inv y5 y6 I8 L8 → zz_Go p l e ({ frames := 6, cells := 0, slots := 0, locals := 156 } : Room) s m args below meth c 0 0 (MQ below (zz_Qi D ca zz_dM A a P) args s 0 0 A) D ca zz_dM A 7 13 a [] [(0, .ref (a 0)), (1, .ref (a k1)), (2, .int x2), (3, .long x3), (5, .int y5), (6, .int y6)] I8 L8 := by
    intro n9
    induction n9 with
    | zero => intro y5 y6 I8 L8 hn; exact absurd hn (Nat.not_lt_zero _)
    | succ n9 ih =>
      intro y5 y6 I8 L8 hn hi
      exact zq_X8_sureAt_13b (K13 := (fun z5 z6 I7 L7 => Inv z5 z6 I7 L7 ∧ μ z5 z6 I7 L7 < μ y5 y6 I8 L8)) X hA hk1  (fun z5 z6 I7 L7 hz => ih z5 z6 I7 L7 (Nat.lt_of_lt_of_le hz.2 (Nat.le_of_lt_succ hn)) hz.1) (hs y5 y6 I8 L8 hi)
  exact key _ x5 x6 I L (Nat.lt_succ_self _) hv0
def zp_X8_sureAt (k1 : Nat) (x2 : Int32) (P : Int32 → zz_I → zz_L → Prop) (I : zz_I) (L : zz_L) : Prop := zp_X8_all k1 (fun r2 I2 L2 => zp_X8_sureAt_13 P k1 x2 r2 (-9 : Int32) (0 : Int32) I2 L2) I L
set_option maxHeartbeats 4000000 in
set_option maxRecDepth 100000 in
theorem zq_X8_sureAt {p : Program} {l : Launch} {e : Env} {s : State} {m : MethodId} {args : Array Value} {below : List Frame} {meth : Method} {c : Code} {D : va_G} {ca : Nat → ClassId} {A : Nat → Prop} {a : Nat → Nat}  {P : Int32 → zz_I → zz_L → Prop} {I : zz_I} {L : zz_L} {k1 : Nat} {x2 : Int32} (X : zz_X p s m meth c cX8_sureAt RX8 (some .int) 7) (hA : ∀ q, s.heap.size ≤ q → A q) (hk1 : zz_dM[k1]? = some (.inl (0, 43)))  (h : zp_X8_sureAt k1 x2 P I L) : zz_Go p l e ({ frames := 6, cells := 0, slots := 0, locals := 156 } : Room) s m args below meth c 0 0 (MQ below (zz_Qi D ca zz_dM A a P) args s 0 0 A) D ca zz_dM A 7 0 a [] [(0, .ref (a 0)), (1, .ref (a k1)), (2, .int x2)] I L := by
  obtain ⟨hx, hb, hml, hown, zw, hr, hlocks⟩ := id X
  intro H locs ls hB hl
  unfold zp_X8_sureAt at h
  refine lv_aload_n hx hb dX8_sureAt_0 rfl (lv_at hl 0 rfl) ?_
  refine lv_aload_n hx hb dX8_sureAt_1 rfl (lv_at hl 1 rfl) ?_
  refine zz_gol hB hA (zz_runV (As := [.ref (a k1)]) (rest := []) hx hb hml hown zw hB zM_X8_231 (zc_X8_all l D ca a I L H.size hk1 h) zdM_0 rfl rfl hl.1 rfl (Nat.le_of_ble_eq_true rfl) rfl rfl ⟨Nat.le_of_ble_eq_true rfl, Nat.le_of_ble_eq_true rfl⟩ dX8_sureAt_2 ⟨Nat.le_of_ble_eq_true rfl, Nat.le_of_ble_eq_true rfl⟩) (fun r2 I2 L2 H locs h hB => ?_)
  refine lv_lstore_n (lv' := [(3, .long r2), (0, .ref (a 0)), (1, .ref (a k1)), (2, .int x2)]) hx hb dX8_sureAt_5 rfl hl (by decide) rfl (fun ls hl => ?_)
  refine lv_bipush (v := (-9 : Int32)) hx hb dX8_sureAt_6 (by decide) ?_
  refine lv_istore (lv' := [(5, .int (-9 : Int32)), (3, .long r2), (0, .ref (a 0)), (1, .ref (a k1)), (2, .int x2)]) hx hb dX8_sureAt_8 hl (by decide) rfl (fun ls hl => ?_)
  refine lv_iconst (v := (0 : Int32)) hx hb dX8_sureAt_10 (by decide) ?_
  refine lv_istore (lv' := [(6, .int (0 : Int32)), (5, .int (-9 : Int32)), (3, .long r2), (0, .ref (a 0)), (1, .ref (a k1)), (2, .int x2)]) hx hb dX8_sureAt_11 hl (by decide) rfl (fun ls hl => ?_)
  exact zq_X8_sureAt_13 X hA hk1 h H locs ls hB (lv_sub hl [3, 4, 5, 2, 1, 0] rfl)
theorem zc_X8_sureAt (l : Launch) (D : va_G) (ca : Nat → ClassId) (a : Nat → Nat) (I : zz_I) (L : zz_L) (sz : Nat) {k1 : Nat} {x2 : Int32} {P : Int32 → zz_I → zz_L → Prop} (hk1 : zz_dM[k1]? = some (.inl (0, 43))) (h : zp_X8_sureAt k1 x2 P I L) : Met l yX8_sureAt [.code yX8_sureAt cX8_sureAt 7 (some .int)] ({ frames := 6, cells := 0, slots := 0, locals := 156 } : Room) (zz_Pre D ca zz_dM [.ref (a 0), .ref (a k1), .int x2] a I L sz) (zz_Qi D ca zz_dM (zz_A ca zz_dM a I L sz) a P) 0 0 (zz_A ca zz_dM a I L sz) :=
  zz_start (by decide) (Nat.le_of_ble_eq_true rfl) (fun p e s m below meth c X hsz hA => zq_X8_sureAt X hA hk1 h)
def zp_X8_does_309  (P : Int32 → zz_I → zz_L → Prop) (x2 : Int32) (x3 : Int32) (x4 : Int32) (s0 : Int32) (I : zz_I) (L : zz_L) : Prop := (s0 = 0 → zz_bool s0 ∧ (P s0 I L)) ∧ (¬ s0 = 0 → vp_in (((2 : Int32) + ((3 : Int32) * x2)) + x3) 43 ∧ (∀ I329 : zz_I, I329 = zz_up I 15 (((2 : Int32) + ((3 : Int32) * x2)) + x3).toNatClampNeg x4 → (zz_bool s0 ∧ (P s0 I329 L))))
set_option maxHeartbeats 4000000 in
set_option maxRecDepth 100000 in
theorem zq_X8_does_309 {p : Program} {l : Launch} {e : Env} {s : State} {m : MethodId} {args : Array Value} {below : List Frame} {meth : Method} {c : Code} {D : va_G} {ca : Nat → ClassId} {A : Nat → Prop} {a : Nat → Nat}  {P : Int32 → zz_I → zz_L → Prop} {I : zz_I} {L : zz_L} {x2 : Int32} {x3 : Int32} {x4 : Int32} {s0 : Int32} (X : zz_X p s m meth c cX8_does RX8 (some .boolean) 10) (hA : ∀ q, s.heap.size ≤ q → A q)   (h : zp_X8_does_309  P x2 x3 x4 s0 I L) : zz_Go p l e ({ frames := 7, cells := 0, slots := 0, locals := 182 } : Room) s m args below meth c 0 0 (MQ below (zz_Qi D ca zz_dM A a P) args s 0 0 A) D ca zz_dM A 10 309 a [.int s0] [(0, .ref (a 0)), (2, .int x2), (3, .int x3), (4, .int x4)] I L := by
  obtain ⟨hx, hb, hml, hown, zw, hr, hlocks⟩ := id X
  intro H locs ls hB hl
  unfold zp_X8_does_309 at h
  refine lv_istore (lv' := [(9, .int s0), (0, .ref (a 0)), (2, .int x2), (3, .int x3), (4, .int x4)]) hx hb dX8_does_309 hl (by decide) rfl (fun ls hl => ?_)
  refine lv_iload hx hb dX8_does_311 (lv_at hl 0 rfl) ?_
  refine lv_if_eq (tgt := 330) hx hb dX8_does_313 (by decide) (fun c313 => ?_) (fun c313 => ?_)
  · have h := h.1 c313
    refine lv_iload hx hb dX8_does_330 (lv_at hl 0 rfl) ?_
    obtain ⟨hz332, h⟩ := h
    exact zz_zret hx hb hr hlocks hz332 hB h dX8_does_332
  · have h := h.2 c313
    refine lv_aload_n hx hb dX8_does_316 rfl (lv_at hl 1 rfl) ?_
    refine zz_getr (k' := 15) hx hb hown zw hB zF_X8_53 zdM_0 rfl rfl dX8_does_317 ?_
    refine lv_iconst (v := (2 : Int32)) hx hb dX8_does_320 (by decide) ?_
    refine lv_iconst (v := (3 : Int32)) hx hb dX8_does_321 (by decide) ?_
    refine lv_iload_n hx hb dX8_does_322 rfl (lv_at hl 2 rfl) ?_
    refine lv_imul hx hb dX8_does_323 ?_
    refine lv_iadd hx hb dX8_does_324 ?_
    refine lv_iload_n hx hb dX8_does_325 rfl (lv_at hl 3 rfl) ?_
    refine lv_iadd hx hb dX8_does_326 ?_
    refine lv_iload hx hb dX8_does_327 (lv_at hl 4 rfl) ?_
    obtain ⟨hi329, h⟩ := h
    refine zz_iast hx hb hB zdM_15 hi329 dX8_does_329 (fun H locs hB => ?_)
    obtain ⟨I329, eI329⟩ : ∃ z : zz_I, z = zz_up I 15 (((2 : Int32) + ((3 : Int32) * x2)) + x3).toNatClampNeg x4 := ⟨_, rfl⟩
    rw [← eI329] at hB
    have h := h I329 eI329
    refine lv_iload hx hb dX8_does_330 (lv_at hl 0 rfl) ?_
    obtain ⟨hz332, h⟩ := h
    exact zz_zret hx hb hr hlocks hz332 hB h dX8_does_332
def zp_X8_does_257  (P : Int32 → zz_I → zz_L → Prop) (x2 : Int32) (s0 : Int32) (I : zz_I) (L : zz_L) : Prop := vp_in (1 : Int32) 43 ∧ ((s0 = 0 → vp_in (1 : Int32) 43 ∧ (∀ I279 : zz_I, I279 = zz_up I 15 (1 : Int32).toNatClampNeg ((I 15 (1 : Int32).toNatClampNeg) ^^^ (0 : Int32)) → (zz_bool s0 ∧ (P s0 I279 L)))) ∧ (¬ s0 = 0 → vp_in (1 : Int32) 43 ∧ (∀ I279 : zz_I, I279 = zz_up I 15 (1 : Int32).toNatClampNeg ((I 15 (1 : Int32).toNatClampNeg) ^^^ ((1 : Int32) <<< (x2 &&& 31))) → (zz_bool s0 ∧ (P s0 I279 L)))))
set_option maxHeartbeats 4000000 in
set_option maxRecDepth 100000 in
theorem zq_X8_does_257 {p : Program} {l : Launch} {e : Env} {s : State} {m : MethodId} {args : Array Value} {below : List Frame} {meth : Method} {c : Code} {D : va_G} {ca : Nat → ClassId} {A : Nat → Prop} {a : Nat → Nat}  {P : Int32 → zz_I → zz_L → Prop} {I : zz_I} {L : zz_L} {x2 : Int32} {s0 : Int32} (X : zz_X p s m meth c cX8_does RX8 (some .boolean) 10) (hA : ∀ q, s.heap.size ≤ q → A q)   (h : zp_X8_does_257  P x2 s0 I L) : zz_Go p l e ({ frames := 7, cells := 0, slots := 0, locals := 182 } : Room) s m args below meth c 0 0 (MQ below (zz_Qi D ca zz_dM A a P) args s 0 0 A) D ca zz_dM A 10 257 a [.int s0] [(0, .ref (a 0)), (2, .int x2)] I L := by
  obtain ⟨hx, hb, hml, hown, zw, hr, hlocks⟩ := id X
  intro H locs ls hB hl
  unfold zp_X8_does_257 at h
  refine lv_istore (lv' := [(9, .int s0), (0, .ref (a 0)), (2, .int x2)]) hx hb dX8_does_257 hl (by decide) rfl (fun ls hl => ?_)
  refine lv_aload_n hx hb dX8_does_259 rfl (lv_at hl 1 rfl) ?_
  refine zz_getr (k' := 15) hx hb hown zw hB zF_X8_53 zdM_0 rfl rfl dX8_does_260 ?_
  refine lv_iconst (v := (1 : Int32)) hx hb dX8_does_263 (by decide) ?_
  refine lv_dup2_11 hx hb dX8_does_264 rfl rfl ?_
  obtain ⟨hi265, h⟩ := h
  refine zz_iald hx hb hB zdM_15 hi265 dX8_does_265 ?_
  refine lv_iload hx hb dX8_does_266 (lv_at hl 0 rfl) ?_
  refine lv_if_eq (tgt := 277) hx hb dX8_does_268 (by decide) (fun c268 => ?_) (fun c268 => ?_)
  · have h := h.1 c268
    refine lv_iconst (v := (0 : Int32)) hx hb dX8_does_277 (by decide) ?_
    refine lv_ixor hx hb dX8_does_278 ?_
    obtain ⟨hi279, h⟩ := h
    refine zz_iast hx hb hB zdM_15 hi279 dX8_does_279 (fun H locs hB => ?_)
    obtain ⟨I279, eI279⟩ : ∃ z : zz_I, z = zz_up I 15 (1 : Int32).toNatClampNeg ((I 15 (1 : Int32).toNatClampNeg) ^^^ (0 : Int32)) := ⟨_, rfl⟩
    rw [← eI279] at hB
    have h := h I279 eI279
    refine lv_iload hx hb dX8_does_280 (lv_at hl 0 rfl) ?_
    obtain ⟨hz282, h⟩ := h
    exact zz_zret hx hb hr hlocks hz282 hB h dX8_does_282
  · have h := h.2 c268
    refine lv_iconst (v := (1 : Int32)) hx hb dX8_does_271 (by decide) ?_
    refine lv_iload_n hx hb dX8_does_272 rfl (lv_at hl 2 rfl) ?_
    refine lv_ishl hx hb dX8_does_273 ?_
    refine lv_goto (tgt := 278) hx hb dX8_does_274 (by decide) ?_
    refine lv_ixor hx hb dX8_does_278 ?_
    obtain ⟨hi279, h⟩ := h
    refine zz_iast hx hb hB zdM_15 hi279 dX8_does_279 (fun H locs hB => ?_)
    obtain ⟨I279, eI279⟩ : ∃ z : zz_I, z = zz_up I 15 (1 : Int32).toNatClampNeg ((I 15 (1 : Int32).toNatClampNeg) ^^^ ((1 : Int32) <<< (x2 &&& 31))) := ⟨_, rfl⟩
    rw [← eI279] at hB
    have h := h I279 eI279
    refine lv_iload hx hb dX8_does_280 (lv_at hl 0 rfl) ?_
    obtain ⟨hz282, h⟩ := h
    exact zz_zret hx hb hr hlocks hz282 hB h dX8_does_282
def zp_X8_does_208  (P : Int32 → zz_I → zz_L → Prop) (x4 : Int32) (x6 : Int32) (s0 : Int32) (I : zz_I) (L : zz_L) : Prop := (s0 = 0 → zz_bool s0 ∧ (P s0 I L)) ∧ (¬ s0 = 0 → zp_X8_carveOn 15 x6 x4 (fun I224 L224 => zz_bool s0 ∧ (P s0 I224 L224)) I L)
set_option maxHeartbeats 4000000 in
set_option maxRecDepth 100000 in
theorem zq_X8_does_208 {p : Program} {l : Launch} {e : Env} {s : State} {m : MethodId} {args : Array Value} {below : List Frame} {meth : Method} {c : Code} {D : va_G} {ca : Nat → ClassId} {A : Nat → Prop} {a : Nat → Nat}  {P : Int32 → zz_I → zz_L → Prop} {I : zz_I} {L : zz_L} {x4 : Int32} {x6 : Int32} {s0 : Int32} (X : zz_X p s m meth c cX8_does RX8 (some .boolean) 10) (hA : ∀ q, s.heap.size ≤ q → A q)   (h : zp_X8_does_208  P x4 x6 s0 I L) : zz_Go p l e ({ frames := 7, cells := 0, slots := 0, locals := 182 } : Room) s m args below meth c 0 0 (MQ below (zz_Qi D ca zz_dM A a P) args s 0 0 A) D ca zz_dM A 10 208 a [.int s0] [(0, .ref (a 0)), (4, .int x4), (6, .int x6)] I L := by
  obtain ⟨hx, hb, hml, hown, zw, hr, hlocks⟩ := id X
  intro H locs ls hB hl
  unfold zp_X8_does_208 at h
  refine lv_istore (lv' := [(9, .int s0), (0, .ref (a 0)), (4, .int x4), (6, .int x6)]) hx hb dX8_does_208 hl (by decide) rfl (fun ls hl => ?_)
  refine lv_iload hx hb dX8_does_210 (lv_at hl 0 rfl) ?_
  refine lv_if_eq (tgt := 227) hx hb dX8_does_212 (by decide) (fun c212 => ?_) (fun c212 => ?_)
  · have h := h.1 c212
    refine lv_iload hx hb dX8_does_227 (lv_at hl 0 rfl) ?_
    obtain ⟨hz229, h⟩ := h
    exact zz_zret hx hb hr hlocks hz229 hB h dX8_does_229
  · have h := h.2 c212
    refine lv_aload_n hx hb dX8_does_215 rfl (lv_at hl 1 rfl) ?_
    refine lv_aload_n hx hb dX8_does_216 rfl (lv_at hl 1 rfl) ?_
    refine zz_getr (k' := 15) hx hb hown zw hB zF_X8_53 zdM_0 rfl rfl dX8_does_217 ?_
    refine lv_iload hx hb dX8_does_220 (lv_at hl 3 rfl) ?_
    refine lv_iload hx hb dX8_does_222 (lv_at hl 2 rfl) ?_
    refine zz_gov hB hA (zz_runV (As := [.ref (a 15), .int x6, .int x4]) (rest := []) hx hb hml hown zw hB zM_X8_176 (zc_X8_carveOn l D ca a I L H.size zdM_15 h) zdM_0 rfl rfl hl.1 rfl (Nat.le_of_ble_eq_true rfl) rfl rfl ⟨Nat.le_of_ble_eq_true rfl, Nat.le_of_ble_eq_true rfl⟩ dX8_does_224 ⟨Nat.le_of_ble_eq_true rfl, Nat.le_of_ble_eq_true rfl⟩) (fun I224 L224 H locs h hB => ?_)
    refine lv_iload hx hb dX8_does_227 (lv_at hl 0 rfl) ?_
    obtain ⟨hz229, h⟩ := h
    exact zz_zret hx hb hr hlocks hz229 hB h dX8_does_229
def zp_X8_does_151  (P : Int32 → zz_I → zz_L → Prop) (x6 : Int32) (s0 : Int32) (I : zz_I) (L : zz_L) : Prop := (s0 = 0 → zz_bool s0 ∧ (P s0 I L)) ∧ (¬ s0 = 0 → zp_X8_wearOn 15 x6 (fun I165 L165 => zz_bool s0 ∧ (P s0 I165 L165)) I L)
set_option maxHeartbeats 4000000 in
set_option maxRecDepth 100000 in
theorem zq_X8_does_151 {p : Program} {l : Launch} {e : Env} {s : State} {m : MethodId} {args : Array Value} {below : List Frame} {meth : Method} {c : Code} {D : va_G} {ca : Nat → ClassId} {A : Nat → Prop} {a : Nat → Nat}  {P : Int32 → zz_I → zz_L → Prop} {I : zz_I} {L : zz_L} {x6 : Int32} {s0 : Int32} (X : zz_X p s m meth c cX8_does RX8 (some .boolean) 10) (hA : ∀ q, s.heap.size ≤ q → A q)   (h : zp_X8_does_151  P x6 s0 I L) : zz_Go p l e ({ frames := 7, cells := 0, slots := 0, locals := 182 } : Room) s m args below meth c 0 0 (MQ below (zz_Qi D ca zz_dM A a P) args s 0 0 A) D ca zz_dM A 10 151 a [.int s0] [(0, .ref (a 0)), (6, .int x6)] I L := by
  obtain ⟨hx, hb, hml, hown, zw, hr, hlocks⟩ := id X
  intro H locs ls hB hl
  unfold zp_X8_does_151 at h
  refine lv_istore (lv' := [(9, .int s0), (0, .ref (a 0)), (6, .int x6)]) hx hb dX8_does_151 hl (by decide) rfl (fun ls hl => ?_)
  refine lv_iload hx hb dX8_does_153 (lv_at hl 0 rfl) ?_
  refine lv_if_eq (tgt := 168) hx hb dX8_does_155 (by decide) (fun c155 => ?_) (fun c155 => ?_)
  · have h := h.1 c155
    refine lv_iload hx hb dX8_does_168 (lv_at hl 0 rfl) ?_
    obtain ⟨hz170, h⟩ := h
    exact zz_zret hx hb hr hlocks hz170 hB h dX8_does_170
  · have h := h.2 c155
    refine lv_aload_n hx hb dX8_does_158 rfl (lv_at hl 1 rfl) ?_
    refine lv_aload_n hx hb dX8_does_159 rfl (lv_at hl 1 rfl) ?_
    refine zz_getr (k' := 15) hx hb hown zw hB zF_X8_53 zdM_0 rfl rfl dX8_does_160 ?_
    refine lv_iload hx hb dX8_does_163 (lv_at hl 2 rfl) ?_
    refine zz_gov hB hA (zz_runV (As := [.ref (a 15), .int x6]) (rest := []) hx hb hml hown zw hB zM_X8_170 (zc_X8_wearOn l D ca a I L H.size zdM_15 h) zdM_0 rfl rfl hl.1 rfl (Nat.le_of_ble_eq_true rfl) rfl rfl ⟨Nat.le_of_ble_eq_true rfl, Nat.le_of_ble_eq_true rfl⟩ dX8_does_165 ⟨Nat.le_of_ble_eq_true rfl, Nat.le_of_ble_eq_true rfl⟩) (fun I165 L165 H locs h hB => ?_)
    refine lv_iload hx hb dX8_does_168 (lv_at hl 0 rfl) ?_
    obtain ⟨hz170, h⟩ := h
    exact zz_zret hx hb hr hlocks hz170 hB h dX8_does_170
def zp_X8_does_65  (P : Int32 → zz_I → zz_L → Prop) (x1 : Int32) (x2 : Int32) (x3 : Int32) (x4 : Int32) (x5 : Int32) (x6 : Int32) (x7 : Int32) (s0 : Int32) (I : zz_I) (L : zz_L) : Prop := ∀ w75 : Int32, w75 = x1 / (10000 : Int32) → ((w75 = (1 : Int32) → (s0 = 0 → zp_X8_does_151 P x6 (0 : Int32) I L) ∧ (¬ s0 = 0 → (¬ x4 = 0 → zp_X8_does_151 P x6 (0 : Int32) I L) ∧ (x4 = 0 → (¬ x5 = 0 → zp_X8_does_151 P x6 (0 : Int32) I L) ∧ (x5 = 0 → vp_in ((19 : Int32) + x6) 43 ∧ (((6 : Int32) < (I 15 ((19 : Int32) + x6).toNatClampNeg) → zp_X8_does_151 P x6 (0 : Int32) I L) ∧ (¬ (6 : Int32) < (I 15 ((19 : Int32) + x6).toNatClampNeg) → zp_X8_does_151 P x6 (1 : Int32) I L)))))) ∧ (w75 = (2 : Int32) → (s0 = 0 → zp_X8_does_208 P x4 x6 (0 : Int32) I L) ∧ (¬ s0 = 0 → ((6 : Int32) < x4 → zp_X8_does_208 P x4 x6 (0 : Int32) I L) ∧ (¬ (6 : Int32) < x4 → (¬ x5 = 0 → zp_X8_does_208 P x4 x6 (0 : Int32) I L) ∧ (x5 = 0 → zp_X8_isInGaps 15 x6 x4 (fun r197 => (r197 = 0 → zp_X8_does_208 P x4 x6 (0 : Int32) I L) ∧ (¬ r197 = 0 → zp_X8_does_208 P x4 x6 (1 : Int32) I L)) I L)))) ∧ (w75 = (3 : Int32) → ((I 0 5) ≤ x2 → zp_X8_does_257 P x2 (0 : Int32) I L) ∧ (¬ (I 0 5) ≤ x2 → (¬ x3 = 0 → zp_X8_does_257 P x2 (0 : Int32) I L) ∧ (x3 = 0 → (¬ x4 = 0 → zp_X8_does_257 P x2 (0 : Int32) I L) ∧ (x4 = 0 → (¬ x5 = 0 → zp_X8_does_257 P x2 (0 : Int32) I L) ∧ (x5 = 0 → zp_X8_does_257 P x2 (1 : Int32) I L))))) ∧ (w75 = (4 : Int32) → ((3 : Int32) ≤ x2 → zp_X8_does_309 P x2 x3 x4 (0 : Int32) I L) ∧ (¬ (3 : Int32) ≤ x2 → ((3 : Int32) ≤ x3 → zp_X8_does_309 P x2 x3 x4 (0 : Int32) I L) ∧ (¬ (3 : Int32) ≤ x3 → ((3 : Int32) ≤ x4 → zp_X8_does_309 P x2 x3 x4 (0 : Int32) I L) ∧ (¬ (3 : Int32) ≤ x4 → (¬ x5 = 0 → zp_X8_does_309 P x2 x3 x4 (0 : Int32) I L) ∧ (x5 = 0 → zp_X8_does_309 P x2 x3 x4 (1 : Int32) I L))))) ∧ (w75 = (5 : Int32) → ((I 0 5) ≤ x2 → P (0 : Int32) I L) ∧ (¬ (I 0 5) ≤ x2 → vp_in (0 : Int32) 43 ∧ (((I 15 (0 : Int32).toNatClampNeg) ≤ x7 → P (0 : Int32) I L) ∧ (¬ (I 15 (0 : Int32).toNatClampNeg) ≤ x7 → (¬ x5 = 0 → P (0 : Int32) I L) ∧ (x5 = 0 → zp_X8_wordLies 15 x2 x7 (fun r365 => (r365 = 0 → P (0 : Int32) I L) ∧ (¬ r365 = 0 → P (1 : Int32) I L)) I L))))) ∧ (w75 = (6 : Int32) → (¬ x4 = 0 → P (0 : Int32) I L) ∧ (x4 = 0 → (¬ x5 = 0 → P (0 : Int32) I L) ∧ (x5 = 0 → zp_X8_all 15 (fun r392 I392 L392 => ((x6.toInt64) < r392 → P (0 : Int32) I392 L392) ∧ (¬ (x6.toInt64) < r392 → P (1 : Int32) I392 L392)) I L))) ∧ (w75 = (7 : Int32) → (s0 = 0 → P (0 : Int32) I L) ∧ (¬ s0 = 0 → ((6 : Int32) < x4 → P (0 : Int32) I L) ∧ (¬ (6 : Int32) < x4 → (¬ x5 = 0 → P (0 : Int32) I L) ∧ (x5 = 0 → zp_X8_sureAt 15 x6 (fun r432 I432 L432 => (¬ r432 = x4 → P (0 : Int32) I432 L432) ∧ (r432 = x4 → P (1 : Int32) I432 L432)) I L)))) ∧ (¬ w75 = (1 : Int32) → ¬ w75 = (2 : Int32) → ¬ w75 = (3 : Int32) → ¬ w75 = (4 : Int32) → ¬ w75 = (5 : Int32) → ¬ w75 = (6 : Int32) → ¬ w75 = (7 : Int32) → P (0 : Int32) I L))
set_option maxHeartbeats 4000000 in
set_option maxRecDepth 100000 in
theorem zq_X8_does_65 {p : Program} {l : Launch} {e : Env} {s : State} {m : MethodId} {args : Array Value} {below : List Frame} {meth : Method} {c : Code} {D : va_G} {ca : Nat → ClassId} {A : Nat → Prop} {a : Nat → Nat}  {P : Int32 → zz_I → zz_L → Prop} {I : zz_I} {L : zz_L} {x1 : Int32} {x2 : Int32} {x3 : Int32} {x4 : Int32} {x5 : Int32} {x6 : Int32} {x7 : Int32} {s0 : Int32} (X : zz_X p s m meth c cX8_does RX8 (some .boolean) 10) (hA : ∀ q, s.heap.size ≤ q → A q)   (h : zp_X8_does_65  P x1 x2 x3 x4 x5 x6 x7 s0 I L) : zz_Go p l e ({ frames := 7, cells := 0, slots := 0, locals := 182 } : Room) s m args below meth c 0 0 (MQ below (zz_Qi D ca zz_dM A a P) args s 0 0 A) D ca zz_dM A 10 65 a [.int s0] [(0, .ref (a 0)), (1, .int x1), (2, .int x2), (3, .int x3), (4, .int x4), (5, .int x5), (6, .int x6), (7, .int x7)] I L := by
  obtain ⟨hx, hb, hml, hown, zw, hr, hlocks⟩ := id X
  intro H locs ls hB hl
  unfold zp_X8_does_65 at h
  refine lv_istore (lv' := [(8, .int s0), (0, .ref (a 0)), (1, .int x1), (2, .int x2), (3, .int x3), (4, .int x4), (5, .int x5), (6, .int x6), (7, .int x7)]) hx hb dX8_does_65 hl (by decide) rfl (fun ls hl => ?_)
  refine lv_iconst (v := (0 : Int32)) hx hb dX8_does_67 (by decide) ?_
  refine lv_istore (lv' := [(9, .int (0 : Int32)), (8, .int s0), (0, .ref (a 0)), (1, .int x1), (2, .int x2), (3, .int x3), (4, .int x4), (5, .int x5), (6, .int x6), (7, .int x7)]) hx hb dX8_does_68 hl (by decide) rfl (fun ls hl => ?_)
  refine lv_iload_n hx hb dX8_does_70 rfl (lv_at hl 3 rfl) ?_
  refine lv_sipush (v := (10000 : Int32)) hx hb dX8_does_71 (by decide) ?_
  refine lv_idiv hx hb dX8_does_74 (by decide) ?_
  refine lv_topi (fun w75 ew75 => ?_)
  have h := h w75 ew75
  by_cases q75_1 : w75 = (1 : Int32)
  · have h := h.1 q75_1
    refine lv_tableIn (tgt := 116) hx hb dX8_does_75 (by rw [q75_1] <;> decide) (by rw [q75_1] <;> decide) (by rw [q75_1] <;> rfl) (by decide) ?_
    refine lv_iload hx hb dX8_does_116 (lv_at hl 1 rfl) ?_
    refine lv_if_eq (tgt := 150) hx hb dX8_does_118 (by decide) (fun c118 => ?_) (fun c118 => ?_)
    · have h := h.1 c118
      refine lv_iconst (v := (0 : Int32)) hx hb dX8_does_150 (by decide) ?_
      exact zq_X8_does_151 X hA  h H locs ls hB (lv_sub hl [2, 8] rfl)
    · have h := h.2 c118
      refine lv_iload hx hb dX8_does_121 (lv_at hl 6 rfl) ?_
      refine lv_if_ne (tgt := 150) hx hb dX8_does_123 (by decide) (fun c123 => ?_) (fun c123 => ?_)
      · have h := h.1 c123
        refine lv_iconst (v := (0 : Int32)) hx hb dX8_does_150 (by decide) ?_
        exact zq_X8_does_151 X hA  h H locs ls hB (lv_sub hl [2, 8] rfl)
      · have h := h.2 c123
        refine lv_iload hx hb dX8_does_126 (lv_at hl 7 rfl) ?_
        refine lv_if_ne (tgt := 150) hx hb dX8_does_128 (by decide) (fun c128 => ?_) (fun c128 => ?_)
        · have h := h.1 c128
          refine lv_iconst (v := (0 : Int32)) hx hb dX8_does_150 (by decide) ?_
          exact zq_X8_does_151 X hA  h H locs ls hB (lv_sub hl [2, 8] rfl)
        · have h := h.2 c128
          refine lv_aload_n hx hb dX8_does_131 rfl (lv_at hl 2 rfl) ?_
          refine zz_getr (k' := 15) hx hb hown zw hB zF_X8_53 zdM_0 rfl rfl dX8_does_132 ?_
          refine lv_bipush (v := (19 : Int32)) hx hb dX8_does_135 (by decide) ?_
          refine lv_iload hx hb dX8_does_137 (lv_at hl 8 rfl) ?_
          refine lv_iadd hx hb dX8_does_139 ?_
          obtain ⟨hi140, h⟩ := h
          refine zz_iald hx hb hB zdM_15 hi140 dX8_does_140 ?_
          refine lv_bipush (v := (6 : Int32)) hx hb dX8_does_141 (by decide) ?_
          refine lv_icmp_gt (tgt := 150) hx hb dX8_does_143 (by decide) (fun c143 => ?_) (fun c143 => ?_)
          · have h := h.1 c143
            refine lv_iconst (v := (0 : Int32)) hx hb dX8_does_150 (by decide) ?_
            exact zq_X8_does_151 X hA  h H locs ls hB (lv_sub hl [2, 8] rfl)
          · have h := h.2 c143
            refine lv_iconst (v := (1 : Int32)) hx hb dX8_does_146 (by decide) ?_
            refine lv_goto (tgt := 151) hx hb dX8_does_147 (by decide) ?_
            exact zq_X8_does_151 X hA  h H locs ls hB (lv_sub hl [2, 8] rfl)
  by_cases q75_2 : w75 = (2 : Int32)
  · have h := h.2.1 q75_2
    refine lv_tableIn (tgt := 171) hx hb dX8_does_75 (by rw [q75_2] <;> decide) (by rw [q75_2] <;> decide) (by rw [q75_2] <;> rfl) (by decide) ?_
    refine lv_iload hx hb dX8_does_171 (lv_at hl 1 rfl) ?_
    refine lv_if_eq (tgt := 207) hx hb dX8_does_173 (by decide) (fun c173 => ?_) (fun c173 => ?_)
    · have h := h.1 c173
      refine lv_iconst (v := (0 : Int32)) hx hb dX8_does_207 (by decide) ?_
      exact zq_X8_does_208 X hA  h H locs ls hB (lv_sub hl [2, 6, 8] rfl)
    · have h := h.2 c173
      refine lv_iload hx hb dX8_does_176 (lv_at hl 6 rfl) ?_
      refine lv_bipush (v := (6 : Int32)) hx hb dX8_does_178 (by decide) ?_
      refine lv_icmp_gt (tgt := 207) hx hb dX8_does_180 (by decide) (fun c180 => ?_) (fun c180 => ?_)
      · have h := h.1 c180
        refine lv_iconst (v := (0 : Int32)) hx hb dX8_does_207 (by decide) ?_
        exact zq_X8_does_208 X hA  h H locs ls hB (lv_sub hl [2, 6, 8] rfl)
      · have h := h.2 c180
        refine lv_iload hx hb dX8_does_183 (lv_at hl 7 rfl) ?_
        refine lv_if_ne (tgt := 207) hx hb dX8_does_185 (by decide) (fun c185 => ?_) (fun c185 => ?_)
        · have h := h.1 c185
          refine lv_iconst (v := (0 : Int32)) hx hb dX8_does_207 (by decide) ?_
          exact zq_X8_does_208 X hA  h H locs ls hB (lv_sub hl [2, 6, 8] rfl)
        · have h := h.2 c185
          refine lv_aload_n hx hb dX8_does_188 rfl (lv_at hl 2 rfl) ?_
          refine lv_aload_n hx hb dX8_does_189 rfl (lv_at hl 2 rfl) ?_
          refine zz_getr (k' := 15) hx hb hown zw hB zF_X8_53 zdM_0 rfl rfl dX8_does_190 ?_
          refine lv_iload hx hb dX8_does_193 (lv_at hl 8 rfl) ?_
          refine lv_iload hx hb dX8_does_195 (lv_at hl 6 rfl) ?_
          refine zz_goip hB hA (zz_runV (As := [.ref (a 15), .int x6, .int x4]) (rest := []) hx hb hml hown zw hB zM_X8_160 (zc_X8_isInGaps l D ca a I L H.size zdM_15 h) zdM_0 rfl rfl hl.1 rfl (Nat.le_of_ble_eq_true rfl) rfl rfl ⟨Nat.le_of_ble_eq_true rfl, Nat.le_of_ble_eq_true rfl⟩ dX8_does_197 ⟨Nat.le_of_ble_eq_true rfl, Nat.le_of_ble_eq_true rfl⟩) (fun r197 H locs h hB => ?_)
          refine lv_if_eq (tgt := 207) hx hb dX8_does_200 (by decide) (fun c200 => ?_) (fun c200 => ?_)
          · have h := h.1 c200
            refine lv_iconst (v := (0 : Int32)) hx hb dX8_does_207 (by decide) ?_
            exact zq_X8_does_208 X hA  h H locs ls hB (lv_sub hl [2, 6, 8] rfl)
          · have h := h.2 c200
            refine lv_iconst (v := (1 : Int32)) hx hb dX8_does_203 (by decide) ?_
            refine lv_goto (tgt := 208) hx hb dX8_does_204 (by decide) ?_
            exact zq_X8_does_208 X hA  h H locs ls hB (lv_sub hl [2, 6, 8] rfl)
  by_cases q75_3 : w75 = (3 : Int32)
  · have h := h.2.2.1 q75_3
    refine lv_tableIn (tgt := 230) hx hb dX8_does_75 (by rw [q75_3] <;> decide) (by rw [q75_3] <;> decide) (by rw [q75_3] <;> rfl) (by decide) ?_
    refine lv_iload_n hx hb dX8_does_230 rfl (lv_at hl 4 rfl) ?_
    refine lv_aload_n hx hb dX8_does_231 rfl (lv_at hl 2 rfl) ?_
    refine zz_geti hx hb hown zw hB zF_X8_98 zdM_0 rfl dX8_does_232 ?_
    refine lv_icmp_ge (tgt := 256) hx hb dX8_does_235 (by decide) (fun c235 => ?_) (fun c235 => ?_)
    · have h := h.1 c235
      refine lv_iconst (v := (0 : Int32)) hx hb dX8_does_256 (by decide) ?_
      exact zq_X8_does_257 X hA  h H locs ls hB (lv_sub hl [2, 4] rfl)
    · have h := h.2 c235
      refine lv_iload_n hx hb dX8_does_238 rfl (lv_at hl 5 rfl) ?_
      refine lv_if_ne (tgt := 256) hx hb dX8_does_239 (by decide) (fun c239 => ?_) (fun c239 => ?_)
      · have h := h.1 c239
        refine lv_iconst (v := (0 : Int32)) hx hb dX8_does_256 (by decide) ?_
        exact zq_X8_does_257 X hA  h H locs ls hB (lv_sub hl [2, 4] rfl)
      · have h := h.2 c239
        refine lv_iload hx hb dX8_does_242 (lv_at hl 6 rfl) ?_
        refine lv_if_ne (tgt := 256) hx hb dX8_does_244 (by decide) (fun c244 => ?_) (fun c244 => ?_)
        · have h := h.1 c244
          refine lv_iconst (v := (0 : Int32)) hx hb dX8_does_256 (by decide) ?_
          exact zq_X8_does_257 X hA  h H locs ls hB (lv_sub hl [2, 4] rfl)
        · have h := h.2 c244
          refine lv_iload hx hb dX8_does_247 (lv_at hl 7 rfl) ?_
          refine lv_if_ne (tgt := 256) hx hb dX8_does_249 (by decide) (fun c249 => ?_) (fun c249 => ?_)
          · have h := h.1 c249
            refine lv_iconst (v := (0 : Int32)) hx hb dX8_does_256 (by decide) ?_
            exact zq_X8_does_257 X hA  h H locs ls hB (lv_sub hl [2, 4] rfl)
          · have h := h.2 c249
            refine lv_iconst (v := (1 : Int32)) hx hb dX8_does_252 (by decide) ?_
            refine lv_goto (tgt := 257) hx hb dX8_does_253 (by decide) ?_
            exact zq_X8_does_257 X hA  h H locs ls hB (lv_sub hl [2, 4] rfl)
  by_cases q75_4 : w75 = (4 : Int32)
  · have h := h.2.2.2.1 q75_4
    refine lv_tableIn (tgt := 283) hx hb dX8_does_75 (by rw [q75_4] <;> decide) (by rw [q75_4] <;> decide) (by rw [q75_4] <;> rfl) (by decide) ?_
    refine lv_iload_n hx hb dX8_does_283 rfl (lv_at hl 4 rfl) ?_
    refine lv_iconst (v := (3 : Int32)) hx hb dX8_does_284 (by decide) ?_
    refine lv_icmp_ge (tgt := 308) hx hb dX8_does_285 (by decide) (fun c285 => ?_) (fun c285 => ?_)
    · have h := h.1 c285
      refine lv_iconst (v := (0 : Int32)) hx hb dX8_does_308 (by decide) ?_
      exact zq_X8_does_309 X hA  h H locs ls hB (lv_sub hl [2, 4, 5, 6] rfl)
    · have h := h.2 c285
      refine lv_iload_n hx hb dX8_does_288 rfl (lv_at hl 5 rfl) ?_
      refine lv_iconst (v := (3 : Int32)) hx hb dX8_does_289 (by decide) ?_
      refine lv_icmp_ge (tgt := 308) hx hb dX8_does_290 (by decide) (fun c290 => ?_) (fun c290 => ?_)
      · have h := h.1 c290
        refine lv_iconst (v := (0 : Int32)) hx hb dX8_does_308 (by decide) ?_
        exact zq_X8_does_309 X hA  h H locs ls hB (lv_sub hl [2, 4, 5, 6] rfl)
      · have h := h.2 c290
        refine lv_iload hx hb dX8_does_293 (lv_at hl 6 rfl) ?_
        refine lv_iconst (v := (3 : Int32)) hx hb dX8_does_295 (by decide) ?_
        refine lv_icmp_ge (tgt := 308) hx hb dX8_does_296 (by decide) (fun c296 => ?_) (fun c296 => ?_)
        · have h := h.1 c296
          refine lv_iconst (v := (0 : Int32)) hx hb dX8_does_308 (by decide) ?_
          exact zq_X8_does_309 X hA  h H locs ls hB (lv_sub hl [2, 4, 5, 6] rfl)
        · have h := h.2 c296
          refine lv_iload hx hb dX8_does_299 (lv_at hl 7 rfl) ?_
          refine lv_if_ne (tgt := 308) hx hb dX8_does_301 (by decide) (fun c301 => ?_) (fun c301 => ?_)
          · have h := h.1 c301
            refine lv_iconst (v := (0 : Int32)) hx hb dX8_does_308 (by decide) ?_
            exact zq_X8_does_309 X hA  h H locs ls hB (lv_sub hl [2, 4, 5, 6] rfl)
          · have h := h.2 c301
            refine lv_iconst (v := (1 : Int32)) hx hb dX8_does_304 (by decide) ?_
            refine lv_goto (tgt := 309) hx hb dX8_does_305 (by decide) ?_
            exact zq_X8_does_309 X hA  h H locs ls hB (lv_sub hl [2, 4, 5, 6] rfl)
  by_cases q75_5 : w75 = (5 : Int32)
  · have h := h.2.2.2.2.1 q75_5
    refine lv_tableIn (tgt := 333) hx hb dX8_does_75 (by rw [q75_5] <;> decide) (by rw [q75_5] <;> decide) (by rw [q75_5] <;> rfl) (by decide) ?_
    refine lv_iload_n hx hb dX8_does_333 rfl (lv_at hl 4 rfl) ?_
    refine lv_aload_n hx hb dX8_does_334 rfl (lv_at hl 2 rfl) ?_
    refine zz_geti hx hb hown zw hB zF_X8_98 zdM_0 rfl dX8_does_335 ?_
    refine lv_icmp_ge (tgt := 375) hx hb dX8_does_338 (by decide) (fun c338 => ?_) (fun c338 => ?_)
    · have h := h.1 c338
      refine lv_iconst (v := (0 : Int32)) hx hb dX8_does_375 (by decide) ?_
      exact zz_zret hx hb hr hlocks zz_bool0 hB h dX8_does_376
    · have h := h.2 c338
      refine lv_iload hx hb dX8_does_341 (lv_at hl 9 rfl) ?_
      refine lv_aload_n hx hb dX8_does_343 rfl (lv_at hl 2 rfl) ?_
      refine zz_getr (k' := 15) hx hb hown zw hB zF_X8_53 zdM_0 rfl rfl dX8_does_344 ?_
      refine lv_iconst (v := (0 : Int32)) hx hb dX8_does_347 (by decide) ?_
      obtain ⟨hi348, h⟩ := h
      refine zz_iald hx hb hB zdM_15 hi348 dX8_does_348 ?_
      refine lv_icmp_ge (tgt := 375) hx hb dX8_does_349 (by decide) (fun c349 => ?_) (fun c349 => ?_)
      · have h := h.1 c349
        refine lv_iconst (v := (0 : Int32)) hx hb dX8_does_375 (by decide) ?_
        exact zz_zret hx hb hr hlocks zz_bool0 hB h dX8_does_376
      · have h := h.2 c349
        refine lv_iload hx hb dX8_does_352 (lv_at hl 7 rfl) ?_
        refine lv_if_ne (tgt := 375) hx hb dX8_does_354 (by decide) (fun c354 => ?_) (fun c354 => ?_)
        · have h := h.1 c354
          refine lv_iconst (v := (0 : Int32)) hx hb dX8_does_375 (by decide) ?_
          exact zz_zret hx hb hr hlocks zz_bool0 hB h dX8_does_376
        · have h := h.2 c354
          refine lv_aload_n hx hb dX8_does_357 rfl (lv_at hl 2 rfl) ?_
          refine lv_aload_n hx hb dX8_does_358 rfl (lv_at hl 2 rfl) ?_
          refine zz_getr (k' := 15) hx hb hown zw hB zF_X8_53 zdM_0 rfl rfl dX8_does_359 ?_
          refine lv_iload_n hx hb dX8_does_362 rfl (lv_at hl 4 rfl) ?_
          refine lv_iload hx hb dX8_does_363 (lv_at hl 9 rfl) ?_
          refine zz_goip hB hA (zz_runV (As := [.ref (a 15), .int x2, .int x7]) (rest := []) hx hb hml hown zw hB zM_X8_193 (zc_X8_wordLies l D ca a I L H.size zdM_15 h) zdM_0 rfl rfl hl.1 rfl (Nat.le_of_ble_eq_true rfl) rfl rfl ⟨Nat.le_of_ble_eq_true rfl, Nat.le_of_ble_eq_true rfl⟩ dX8_does_365 ⟨Nat.le_of_ble_eq_true rfl, Nat.le_of_ble_eq_true rfl⟩) (fun r365 H locs h hB => ?_)
          refine lv_if_eq (tgt := 375) hx hb dX8_does_368 (by decide) (fun c368 => ?_) (fun c368 => ?_)
          · have h := h.1 c368
            refine lv_iconst (v := (0 : Int32)) hx hb dX8_does_375 (by decide) ?_
            exact zz_zret hx hb hr hlocks zz_bool0 hB h dX8_does_376
          · have h := h.2 c368
            refine lv_iconst (v := (1 : Int32)) hx hb dX8_does_371 (by decide) ?_
            refine lv_goto (tgt := 376) hx hb dX8_does_372 (by decide) ?_
            exact zz_zret hx hb hr hlocks zz_bool1 hB h dX8_does_376
  by_cases q75_6 : w75 = (6 : Int32)
  · have h := h.2.2.2.2.2.1 q75_6
    refine lv_tableIn (tgt := 377) hx hb dX8_does_75 (by rw [q75_6] <;> decide) (by rw [q75_6] <;> decide) (by rw [q75_6] <;> rfl) (by decide) ?_
    refine lv_iload hx hb dX8_does_377 (lv_at hl 6 rfl) ?_
    refine lv_if_ne (tgt := 406) hx hb dX8_does_379 (by decide) (fun c379 => ?_) (fun c379 => ?_)
    · have h := h.1 c379
      refine lv_iconst (v := (0 : Int32)) hx hb dX8_does_406 (by decide) ?_
      exact zz_zret hx hb hr hlocks zz_bool0 hB h dX8_does_407
    · have h := h.2 c379
      refine lv_iload hx hb dX8_does_382 (lv_at hl 7 rfl) ?_
      refine lv_if_ne (tgt := 406) hx hb dX8_does_384 (by decide) (fun c384 => ?_) (fun c384 => ?_)
      · have h := h.1 c384
        refine lv_iconst (v := (0 : Int32)) hx hb dX8_does_406 (by decide) ?_
        exact zz_zret hx hb hr hlocks zz_bool0 hB h dX8_does_407
      · have h := h.2 c384
        refine lv_aload_n hx hb dX8_does_387 rfl (lv_at hl 2 rfl) ?_
        refine lv_aload_n hx hb dX8_does_388 rfl (lv_at hl 2 rfl) ?_
        refine zz_getr (k' := 15) hx hb hown zw hB zF_X8_53 zdM_0 rfl rfl dX8_does_389 ?_
        refine zz_gol hB hA (zz_runV (As := [.ref (a 15)]) (rest := []) hx hb hml hown zw hB zM_X8_231 (zc_X8_all l D ca a I L H.size zdM_15 h) zdM_0 rfl rfl hl.1 rfl (Nat.le_of_ble_eq_true rfl) rfl rfl ⟨Nat.le_of_ble_eq_true rfl, Nat.le_of_ble_eq_true rfl⟩ dX8_does_392 ⟨Nat.le_of_ble_eq_true rfl, Nat.le_of_ble_eq_true rfl⟩) (fun r392 I392 L392 H locs h hB => ?_)
        refine lv_iload hx hb dX8_does_395 (lv_at hl 8 rfl) ?_
        refine lv_i2l (v := x6.toInt64) hx hb dX8_does_397 rfl ?_
        refine zz_l_gt (tgt := 406) hx hb dX8_does_398 dX8_does_399 (by decide) (fun c398 => ?_) (fun c398 => ?_)
        · have h := h.1 c398
          refine lv_iconst (v := (0 : Int32)) hx hb dX8_does_406 (by decide) ?_
          exact zz_zret hx hb hr hlocks zz_bool0 hB h dX8_does_407
        · have h := h.2 c398
          refine lv_iconst (v := (1 : Int32)) hx hb dX8_does_402 (by decide) ?_
          refine lv_goto (tgt := 407) hx hb dX8_does_403 (by decide) ?_
          exact zz_zret hx hb hr hlocks zz_bool1 hB h dX8_does_407
  by_cases q75_7 : w75 = (7 : Int32)
  · have h := h.2.2.2.2.2.2.1 q75_7
    refine lv_tableIn (tgt := 408) hx hb dX8_does_75 (by rw [q75_7] <;> decide) (by rw [q75_7] <;> decide) (by rw [q75_7] <;> rfl) (by decide) ?_
    refine lv_iload hx hb dX8_does_408 (lv_at hl 1 rfl) ?_
    refine lv_if_eq (tgt := 444) hx hb dX8_does_410 (by decide) (fun c410 => ?_) (fun c410 => ?_)
    · have h := h.1 c410
      refine lv_iconst (v := (0 : Int32)) hx hb dX8_does_444 (by decide) ?_
      exact zz_zret hx hb hr hlocks zz_bool0 hB h dX8_does_445
    · have h := h.2 c410
      refine lv_iload hx hb dX8_does_413 (lv_at hl 6 rfl) ?_
      refine lv_bipush (v := (6 : Int32)) hx hb dX8_does_415 (by decide) ?_
      refine lv_icmp_gt (tgt := 444) hx hb dX8_does_417 (by decide) (fun c417 => ?_) (fun c417 => ?_)
      · have h := h.1 c417
        refine lv_iconst (v := (0 : Int32)) hx hb dX8_does_444 (by decide) ?_
        exact zz_zret hx hb hr hlocks zz_bool0 hB h dX8_does_445
      · have h := h.2 c417
        refine lv_iload hx hb dX8_does_420 (lv_at hl 7 rfl) ?_
        refine lv_if_ne (tgt := 444) hx hb dX8_does_422 (by decide) (fun c422 => ?_) (fun c422 => ?_)
        · have h := h.1 c422
          refine lv_iconst (v := (0 : Int32)) hx hb dX8_does_444 (by decide) ?_
          exact zz_zret hx hb hr hlocks zz_bool0 hB h dX8_does_445
        · have h := h.2 c422
          refine lv_aload_n hx hb dX8_does_425 rfl (lv_at hl 2 rfl) ?_
          refine lv_aload_n hx hb dX8_does_426 rfl (lv_at hl 2 rfl) ?_
          refine zz_getr (k' := 15) hx hb hown zw hB zF_X8_53 zdM_0 rfl rfl dX8_does_427 ?_
          refine lv_iload hx hb dX8_does_430 (lv_at hl 8 rfl) ?_
          refine zz_goi hB hA (zz_runV (As := [.ref (a 15), .int x6]) (rest := []) hx hb hml hown zw hB zM_X8_257 (zc_X8_sureAt l D ca a I L H.size zdM_15 h) zdM_0 rfl rfl hl.1 rfl (Nat.le_of_ble_eq_true rfl) rfl rfl ⟨Nat.le_of_ble_eq_true rfl, Nat.le_of_ble_eq_true rfl⟩ dX8_does_432 ⟨Nat.le_of_ble_eq_true rfl, Nat.le_of_ble_eq_true rfl⟩) (fun r432 I432 L432 H locs h hB => ?_)
          refine lv_iload hx hb dX8_does_435 (lv_at hl 6 rfl) ?_
          refine lv_icmp_ne (tgt := 444) hx hb dX8_does_437 (by decide) (fun c437 => ?_) (fun c437 => ?_)
          · have h := h.1 c437
            refine lv_iconst (v := (0 : Int32)) hx hb dX8_does_444 (by decide) ?_
            exact zz_zret hx hb hr hlocks zz_bool0 hB h dX8_does_445
          · have h := h.2 c437
            refine lv_iconst (v := (1 : Int32)) hx hb dX8_does_440 (by decide) ?_
            refine lv_goto (tgt := 445) hx hb dX8_does_441 (by decide) ?_
            exact zz_zret hx hb hr hlocks zz_bool1 hB h dX8_does_445
  have h := h.2.2.2.2.2.2.2 q75_1 q75_2 q75_3 q75_4 q75_5 q75_6 q75_7
  have hts75 : w75.toInt < 1 ∨ 7 < w75.toInt := by
    have z1 := zz_ne_int q75_1
    have z2 := zz_ne_int q75_2
    have z3 := zz_ne_int q75_3
    have z4 := zz_ne_int q75_4
    have z5 := zz_ne_int q75_5
    have z6 := zz_ne_int q75_6
    have z7 := zz_ne_int q75_7
    have e0 : ((1 : Int32)).toInt = 1 ∧ ((2 : Int32)).toInt = 2 ∧ ((3 : Int32)).toInt = 3 ∧ ((4 : Int32)).toInt = 4 ∧ ((5 : Int32)).toInt = 5 ∧ ((6 : Int32)).toInt = 6 ∧ ((7 : Int32)).toInt = 7 := by decide
    omega
  refine lv_tableOut (tgt := 446) hx hb dX8_does_75 hts75 (by decide) ?_
  refine lv_iconst (v := (0 : Int32)) hx hb dX8_does_446 (by decide) ?_
  exact zz_zret hx hb hr hlocks zz_bool0 hB h dX8_does_447
def zp_X8_does (x1 : Int32) (P : Int32 → zz_I → zz_L → Prop) (I : zz_I) (L : zz_L) : Prop := ∀ v8 : Int32, v8 = (x1 / (1000 : Int32)) - (x1 / (1000 : Int32)) / (10 : Int32) * (10 : Int32) → (∀ v16 : Int32, v16 = (x1 / (100 : Int32)) - (x1 / (100 : Int32)) / (10 : Int32) * (10 : Int32) → (∀ v24 : Int32, v24 = (x1 / (10 : Int32)) - (x1 / (10 : Int32)) / (10 : Int32) * (10 : Int32) → (∀ v30 : Int32, v30 = x1 - x1 / (10 : Int32) * (10 : Int32) → (∀ v38 : Int32, v38 = ((10 : Int32) * v8) + v16 → (∀ v47 : Int32, v47 = ((10 : Int32) * v16) + v24 → (vp_in (0 : Int32) 43 ∧ (((I 15 (0 : Int32).toNatClampNeg) ≤ v38 → zp_X8_does_65 P x1 v8 v16 v24 v30 v38 v47 (0 : Int32) I L) ∧ (¬ (I 15 (0 : Int32).toNatClampNeg) ≤ v38 → zp_X8_does_65 P x1 v8 v16 v24 v30 v38 v47 (1 : Int32) I L))))))))
set_option maxHeartbeats 4000000 in
set_option maxRecDepth 100000 in
theorem zq_X8_does {p : Program} {l : Launch} {e : Env} {s : State} {m : MethodId} {args : Array Value} {below : List Frame} {meth : Method} {c : Code} {D : va_G} {ca : Nat → ClassId} {A : Nat → Prop} {a : Nat → Nat}  {P : Int32 → zz_I → zz_L → Prop} {I : zz_I} {L : zz_L} {x1 : Int32} (X : zz_X p s m meth c cX8_does RX8 (some .boolean) 10) (hA : ∀ q, s.heap.size ≤ q → A q)   (h : zp_X8_does x1 P I L) : zz_Go p l e ({ frames := 7, cells := 0, slots := 0, locals := 182 } : Room) s m args below meth c 0 0 (MQ below (zz_Qi D ca zz_dM A a P) args s 0 0 A) D ca zz_dM A 10 0 a [] [(0, .ref (a 0)), (1, .int x1)] I L := by
  obtain ⟨hx, hb, hml, hown, zw, hr, hlocks⟩ := id X
  intro H locs ls hB hl
  unfold zp_X8_does at h
  refine lv_iload_n hx hb dX8_does_0 rfl (lv_at hl 1 rfl) ?_
  refine lv_sipush (v := (1000 : Int32)) hx hb dX8_does_1 (by decide) ?_
  refine lv_idiv hx hb dX8_does_4 (by decide) ?_
  refine lv_bipush (v := (10 : Int32)) hx hb dX8_does_5 (by decide) ?_
  refine lv_irem hx hb dX8_does_7 (by decide) ?_
  refine lv_topi (fun v8 ev8 => ?_)
  have h := h v8 ev8
  refine lv_istore_n (lv' := [(2, .int v8), (0, .ref (a 0)), (1, .int x1)]) hx hb dX8_does_8 rfl hl (by decide) rfl (fun ls hl => ?_)
  refine lv_iload_n hx hb dX8_does_9 rfl (lv_at hl 2 rfl) ?_
  refine lv_bipush (v := (100 : Int32)) hx hb dX8_does_10 (by decide) ?_
  refine lv_idiv hx hb dX8_does_12 (by decide) ?_
  refine lv_bipush (v := (10 : Int32)) hx hb dX8_does_13 (by decide) ?_
  refine lv_irem hx hb dX8_does_15 (by decide) ?_
  refine lv_topi (fun v16 ev16 => ?_)
  have h := h v16 ev16
  refine lv_istore_n (lv' := [(3, .int v16), (2, .int v8), (0, .ref (a 0)), (1, .int x1)]) hx hb dX8_does_16 rfl hl (by decide) rfl (fun ls hl => ?_)
  refine lv_iload_n hx hb dX8_does_17 rfl (lv_at hl 3 rfl) ?_
  refine lv_bipush (v := (10 : Int32)) hx hb dX8_does_18 (by decide) ?_
  refine lv_idiv hx hb dX8_does_20 (by decide) ?_
  refine lv_bipush (v := (10 : Int32)) hx hb dX8_does_21 (by decide) ?_
  refine lv_irem hx hb dX8_does_23 (by decide) ?_
  refine lv_topi (fun v24 ev24 => ?_)
  have h := h v24 ev24
  refine lv_istore (lv' := [(4, .int v24), (3, .int v16), (2, .int v8), (0, .ref (a 0)), (1, .int x1)]) hx hb dX8_does_24 hl (by decide) rfl (fun ls hl => ?_)
  refine lv_iload_n hx hb dX8_does_26 rfl (lv_at hl 4 rfl) ?_
  refine lv_bipush (v := (10 : Int32)) hx hb dX8_does_27 (by decide) ?_
  refine lv_irem hx hb dX8_does_29 (by decide) ?_
  refine lv_topi (fun v30 ev30 => ?_)
  have h := h v30 ev30
  refine lv_istore (lv' := [(5, .int v30), (4, .int v24), (3, .int v16), (2, .int v8), (0, .ref (a 0)), (1, .int x1)]) hx hb dX8_does_30 hl (by decide) rfl (fun ls hl => ?_)
  refine lv_bipush (v := (10 : Int32)) hx hb dX8_does_32 (by decide) ?_
  refine lv_iload_n hx hb dX8_does_34 rfl (lv_at hl 3 rfl) ?_
  refine lv_imul hx hb dX8_does_35 ?_
  refine lv_iload_n hx hb dX8_does_36 rfl (lv_at hl 2 rfl) ?_
  refine lv_iadd hx hb dX8_does_37 ?_
  refine lv_topi (fun v38 ev38 => ?_)
  have h := h v38 ev38
  refine lv_istore (lv' := [(6, .int v38), (5, .int v30), (4, .int v24), (3, .int v16), (2, .int v8), (0, .ref (a 0)), (1, .int x1)]) hx hb dX8_does_38 hl (by decide) rfl (fun ls hl => ?_)
  refine lv_bipush (v := (10 : Int32)) hx hb dX8_does_40 (by decide) ?_
  refine lv_iload_n hx hb dX8_does_42 rfl (lv_at hl 3 rfl) ?_
  refine lv_imul hx hb dX8_does_43 ?_
  refine lv_iload hx hb dX8_does_44 (lv_at hl 2 rfl) ?_
  refine lv_iadd hx hb dX8_does_46 ?_
  refine lv_topi (fun v47 ev47 => ?_)
  have h := h v47 ev47
  refine lv_istore (lv' := [(7, .int v47), (6, .int v38), (5, .int v30), (4, .int v24), (3, .int v16), (2, .int v8), (0, .ref (a 0)), (1, .int x1)]) hx hb dX8_does_47 hl (by decide) rfl (fun ls hl => ?_)
  refine lv_iload hx hb dX8_does_49 (lv_at hl 1 rfl) ?_
  refine lv_aload_n hx hb dX8_does_51 rfl (lv_at hl 6 rfl) ?_
  refine zz_getr (k' := 15) hx hb hown zw hB zF_X8_53 zdM_0 rfl rfl dX8_does_52 ?_
  refine lv_iconst (v := (0 : Int32)) hx hb dX8_does_55 (by decide) ?_
  obtain ⟨hi56, h⟩ := h
  refine zz_iald hx hb hB zdM_15 hi56 dX8_does_56 ?_
  refine lv_icmp_ge (tgt := 64) hx hb dX8_does_57 (by decide) (fun c57 => ?_) (fun c57 => ?_)
  · have h := h.1 c57
    refine lv_iconst (v := (0 : Int32)) hx hb dX8_does_64 (by decide) ?_
    exact zq_X8_does_65 X hA  h H locs ls hB (lv_sub hl [6, 7, 5, 4, 3, 2, 1, 0] rfl)
  · have h := h.2 c57
    refine lv_iconst (v := (1 : Int32)) hx hb dX8_does_60 (by decide) ?_
    refine lv_goto (tgt := 65) hx hb dX8_does_61 (by decide) ?_
    exact zq_X8_does_65 X hA  h H locs ls hB (lv_sub hl [6, 7, 5, 4, 3, 2, 1, 0] rfl)
theorem zc_X8_does (l : Launch) (D : va_G) (ca : Nat → ClassId) (a : Nat → Nat) (I : zz_I) (L : zz_L) (sz : Nat) {x1 : Int32} {P : Int32 → zz_I → zz_L → Prop}  (h : zp_X8_does x1 P I L) : Met l yX8_does [.code yX8_does cX8_does 10 (some .boolean)] ({ frames := 7, cells := 0, slots := 0, locals := 182 } : Room) (zz_Pre D ca zz_dM [.ref (a 0), .int x1] a I L sz) (zz_Qi D ca zz_dM (zz_A ca zz_dM a I L sz) a P) 0 0 (zz_A ca zz_dM a I L sz) :=
  zz_start (by decide) (Nat.le_of_ble_eq_true rfl) (fun p e s m below meth c X hsz hA => zq_X8_does X hA  h)
def zp_X8_find_86 (K23 : Int32 → Int64 → Int32 → Int32 → zz_I → zz_L → Prop) (K37 : Int64 → Int32 → Int64 → Prop) (P : zz_I → zz_L → Prop) (k1 : Nat) (x5 : Int32) (x6 : Int32) (x7 : Int64) (x9 : Int32) (x10 : Int32) (x11 : Int32) (I : zz_I) (L : zz_L) : Prop := zp_X8_heavyBehind k1 x11 x9 x6 (fun r94 => K37 x7 x11 r94) I L
set_option maxHeartbeats 4000000 in
set_option maxRecDepth 100000 in
theorem zq_X8_find_86 {p : Program} {l : Launch} {e : Env} {s : State} {m : MethodId} {args : Array Value} {below : List Frame} {meth : Method} {c : Code} {D : va_G} {ca : Nat → ClassId} {A : Nat → Prop} {a : Nat → Nat} {K23 : Int32 → Int64 → Int32 → Int32 → zz_I → zz_L → Prop} {K37 : Int64 → Int32 → Int64 → Prop} {P : zz_I → zz_L → Prop} {I : zz_I} {L : zz_L} {k1 : Nat} {x5 : Int32} {x6 : Int32} {x7 : Int64} {x9 : Int32} {x10 : Int32} {x11 : Int32} (X : zz_X p s m meth c cX8_find RX8 none 14) (hA : ∀ q, s.heap.size ≤ q → A q) (hk1 : zz_dM[k1]? = some (.inl (0, 43))) (hK23 : ∀ (y6 : Int32) (y7 : Int64) (y9 : Int32) (y10 : Int32) (I8 : zz_I) (L8 : zz_L), K23 y6 y7 y9 y10 I8 L8 → zz_Go p l e ({ frames := 4, cells := 0, slots := 0, locals := 100 } : Room) s m args below meth c 0 0 (MQ below (zz_Qv D ca zz_dM A a P) args s 0 0 A) D ca zz_dM A 14 23 a [] [(0, .ref (a 0)), (1, .ref (a k1)), (5, .int x5), (6, .int y6), (7, .long y7), (9, .int y9), (10, .int y10)] I8 L8) (hK37 : ∀ (y7 : Int64) (y11 : Int32) (y12 : Int64), K37 y7 y11 y12 → zz_Go p l e ({ frames := 4, cells := 0, slots := 0, locals := 100 } : Room) s m args below meth c 0 0 (MQ below (zz_Qv D ca zz_dM A a P) args s 0 0 A) D ca zz_dM A 14 37 a [] [(0, .ref (a 0)), (1, .ref (a k1)), (5, .int x5), (6, .int x6), (7, .long y7), (9, .int x9), (10, .int x10), (11, .int y11), (12, .long y12)] I L) (h : zp_X8_find_86 K23 K37 P k1 x5 x6 x7 x9 x10 x11 I L) : zz_Go p l e ({ frames := 4, cells := 0, slots := 0, locals := 100 } : Room) s m args below meth c 0 0 (MQ below (zz_Qv D ca zz_dM A a P) args s 0 0 A) D ca zz_dM A 14 86 a [] [(0, .ref (a 0)), (1, .ref (a k1)), (5, .int x5), (6, .int x6), (7, .long x7), (9, .int x9), (10, .int x10), (11, .int x11)] I L := by
  obtain ⟨hx, hb, hml, hown, zw, hr, hlocks⟩ := id X
  intro H locs ls hB hl
  unfold zp_X8_find_86 at h
  refine lv_aload_n hx hb dX8_find_86 rfl (lv_at hl 0 rfl) ?_
  refine lv_aload_n hx hb dX8_find_87 rfl (lv_at hl 1 rfl) ?_
  refine lv_iload hx hb dX8_find_88 (lv_at hl 7 rfl) ?_
  refine lv_iload hx hb dX8_find_90 (lv_at hl 5 rfl) ?_
  refine lv_iload hx hb dX8_find_92 (lv_at hl 3 rfl) ?_
  refine zz_golp hB hA (zz_runV (As := [.ref (a k1), .int x11, .int x9, .int x6]) (rest := []) hx hb hml hown zw hB zM_X8_219 (zc_X8_heavyBehind l D ca a I L H.size hk1 h) zdM_0 rfl rfl hl.1 rfl (Nat.le_of_ble_eq_true rfl) rfl rfl ⟨Nat.le_of_ble_eq_true rfl, Nat.le_of_ble_eq_true rfl⟩ dX8_find_94 ⟨Nat.le_of_ble_eq_true rfl, Nat.le_of_ble_eq_true rfl⟩) (fun r94 H locs h hB => ?_)
  refine lv_goto (tgt := 101) hx hb dX8_find_97 (by decide) ?_
  refine lv_lstore (lv' := [(12, .long r94), (0, .ref (a 0)), (1, .ref (a k1)), (5, .int x5), (6, .int x6), (7, .long x7), (9, .int x9), (10, .int x10), (11, .int x11)]) hx hb dX8_find_101 hl (by decide) rfl (fun ls hl => ?_)
  refine lv_goto (tgt := 37) hx hb dX8_find_103 (by decide) ?_
  exact hK37 _ _ _ h H locs ls hB (lv_sub hl [1, 2, 3, 4, 5, 6, 7, 8, 0] rfl)
def zp_X8_find_37b (K23 : Int32 → Int64 → Int32 → Int32 → zz_I → zz_L → Prop) (K37 : Int64 → Int32 → Int64 → Prop) (P : zz_I → zz_L → Prop) (k1 : Nat) (x5 : Int32) (x6 : Int32) (x7 : Int64) (x9 : Int32) (x10 : Int32) (x11 : Int32) (x12 : Int64) (I : zz_I) (L : zz_L) : Prop := (x7 < x12 → vp_in (I 0 33) 8 ∧ (∀ I116 : zz_I, I116 = zz_up I 25 (I 0 33).toNatClampNeg x11 → (∀ I124 : zz_I, I124 = zz_up I116 0 33 ((I116 0 33) + (1 : Int32)) → (vp_in ((11 : Int32) + x11) 43 ∧ (∀ v137 : Int32, v137 = x6 - (I124 k1 ((11 : Int32) + x11).toNatClampNeg) → (zp_X8_unitsOf x11 (fun r144 => ∀ v150 : Int32, v150 = x9 + (r144 + (1 : Int32)) → (K23 v137 x7 v150 x11 I124 L)) I124 L)))))) ∧ (¬ x7 < x12 → ∀ v50 : Int64, v50 = x7 - x12 → (∀ v52 : Int32, v52 = x11 + (1 : Int32) → (zp_X8_fits k1 v52 x9 x10 (fun r63 => (r63 = 0 → K37 v50 v52 (0 : Int64)) ∧ (¬ r63 = 0 → (x5 = 0 → zp_X8_find_86 K23 K37 P k1 x5 x6 v50 x9 x10 v52 I L) ∧ (¬ x5 = 0 → zp_X8_agrees k1 v52 x9 (fun r80 => (r80 = 0 → K37 v50 v52 (0 : Int64)) ∧ (¬ r80 = 0 → zp_X8_find_86 K23 K37 P k1 x5 x6 v50 x9 x10 v52 I L)) I L))) I L)))
set_option maxHeartbeats 4000000 in
set_option maxRecDepth 100000 in
theorem zq_X8_find_37b {p : Program} {l : Launch} {e : Env} {s : State} {m : MethodId} {args : Array Value} {below : List Frame} {meth : Method} {c : Code} {D : va_G} {ca : Nat → ClassId} {A : Nat → Prop} {a : Nat → Nat} {K23 : Int32 → Int64 → Int32 → Int32 → zz_I → zz_L → Prop} {K37 : Int64 → Int32 → Int64 → Prop} {P : zz_I → zz_L → Prop} {I : zz_I} {L : zz_L} {k1 : Nat} {x5 : Int32} {x6 : Int32} {x7 : Int64} {x9 : Int32} {x10 : Int32} {x11 : Int32} {x12 : Int64} (X : zz_X p s m meth c cX8_find RX8 none 14) (hA : ∀ q, s.heap.size ≤ q → A q) (hk1 : zz_dM[k1]? = some (.inl (0, 43))) (hK23 : ∀ (y6 : Int32) (y7 : Int64) (y9 : Int32) (y10 : Int32) (I8 : zz_I) (L8 : zz_L), K23 y6 y7 y9 y10 I8 L8 → zz_Go p l e ({ frames := 4, cells := 0, slots := 0, locals := 100 } : Room) s m args below meth c 0 0 (MQ below (zz_Qv D ca zz_dM A a P) args s 0 0 A) D ca zz_dM A 14 23 a [] [(0, .ref (a 0)), (1, .ref (a k1)), (5, .int x5), (6, .int y6), (7, .long y7), (9, .int y9), (10, .int y10)] I8 L8) (hK37 : ∀ (y7 : Int64) (y11 : Int32) (y12 : Int64), K37 y7 y11 y12 → zz_Go p l e ({ frames := 4, cells := 0, slots := 0, locals := 100 } : Room) s m args below meth c 0 0 (MQ below (zz_Qv D ca zz_dM A a P) args s 0 0 A) D ca zz_dM A 14 37 a [] [(0, .ref (a 0)), (1, .ref (a k1)), (5, .int x5), (6, .int x6), (7, .long y7), (9, .int x9), (10, .int x10), (11, .int y11), (12, .long y12)] I L) (h : zp_X8_find_37b K23 K37 P k1 x5 x6 x7 x9 x10 x11 x12 I L) : zz_Go p l e ({ frames := 4, cells := 0, slots := 0, locals := 100 } : Room) s m args below meth c 0 0 (MQ below (zz_Qv D ca zz_dM A a P) args s 0 0 A) D ca zz_dM A 14 37 a [] [(0, .ref (a 0)), (1, .ref (a k1)), (5, .int x5), (6, .int x6), (7, .long x7), (9, .int x9), (10, .int x10), (11, .int x11), (12, .long x12)] I L := by
  obtain ⟨hx, hb, hml, hown, zw, hr, hlocks⟩ := id X
  intro H locs ls hB hl
  unfold zp_X8_find_37b at h
  refine lv_lload hx hb dX8_find_37 (lv_at hl 8 rfl) ?_
  refine lv_lload hx hb dX8_find_39 (lv_at hl 4 rfl) ?_
  refine zz_l_gt (tgt := 106) hx hb dX8_find_41 dX8_find_42 (by decide) (fun c41 => ?_) (fun c41 => ?_)
  · have h := h.1 c41
    refine lv_aload_n hx hb dX8_find_106 rfl (lv_at hl 0 rfl) ?_
    refine zz_getr (k' := 25) hx hb hown zw hB zF_X8_84 zdM_0 rfl rfl dX8_find_107 ?_
    refine lv_aload_n hx hb dX8_find_110 rfl (lv_at hl 0 rfl) ?_
    refine zz_geti hx hb hown zw hB zF_X8_213 zdM_0 rfl dX8_find_111 ?_
    refine lv_iload hx hb dX8_find_114 (lv_at hl 7 rfl) ?_
    obtain ⟨hi116, h⟩ := h
    refine zz_iast hx hb hB zdM_25 hi116 dX8_find_116 (fun H locs hB => ?_)
    obtain ⟨I116, eI116⟩ : ∃ z : zz_I, z = zz_up I 25 (I 0 33).toNatClampNeg x11 := ⟨_, rfl⟩
    rw [← eI116] at hB
    have h := h I116 eI116
    refine lv_aload_n hx hb dX8_find_117 rfl (lv_at hl 0 rfl) ?_
    refine lv_dup hx hb dX8_find_118 rfl ?_
    refine zz_geti hx hb hown zw hB zF_X8_213 zdM_0 rfl dX8_find_119 ?_
    refine lv_iconst (v := (1 : Int32)) hx hb dX8_find_122 (by decide) ?_
    refine lv_iadd hx hb dX8_find_123 ?_
    refine zz_puti hx hb hown zw hB zP_X8_213 zdM_0 rfl dX8_find_124 (fun H locs hB => ?_)
    obtain ⟨I124, eI124⟩ : ∃ z : zz_I, z = zz_up I116 0 33 ((I116 0 33) + (1 : Int32)) := ⟨_, rfl⟩
    rw [← eI124] at hB
    have h := h I124 eI124
    refine lv_iload hx hb dX8_find_127 (lv_at hl 3 rfl) ?_
    refine lv_aload_n hx hb dX8_find_129 rfl (lv_at hl 1 rfl) ?_
    refine lv_bipush (v := (11 : Int32)) hx hb dX8_find_130 (by decide) ?_
    refine lv_iload hx hb dX8_find_132 (lv_at hl 7 rfl) ?_
    refine lv_iadd hx hb dX8_find_134 ?_
    obtain ⟨hi135, h⟩ := h
    refine zz_iald hx hb hB hk1 hi135 dX8_find_135 ?_
    refine lv_isub hx hb dX8_find_136 ?_
    refine lv_topi (fun v137 ev137 => ?_)
    have h := h v137 ev137
    refine lv_istore (lv' := [(6, .int v137), (0, .ref (a 0)), (1, .ref (a k1)), (5, .int x5), (7, .long x7), (9, .int x9), (10, .int x10), (11, .int x11), (12, .long x12)]) hx hb dX8_find_137 hl (by decide) rfl (fun ls hl => ?_)
    refine lv_iload hx hb dX8_find_139 (lv_at hl 5 rfl) ?_
    refine lv_aload_n hx hb dX8_find_141 rfl (lv_at hl 1 rfl) ?_
    refine lv_iload hx hb dX8_find_142 (lv_at hl 7 rfl) ?_
    refine zz_goip hB hA (zz_runV (As := [.int x11]) (rest := [.int x9]) hx hb hml hown zw hB zM_X8_152 (zc_X8_unitsOf l D ca a I124 L H.size h) zdM_0 rfl rfl hl.1 rfl (Nat.le_of_ble_eq_true rfl) rfl rfl ⟨Nat.le_of_ble_eq_true rfl, Nat.le_of_ble_eq_true rfl⟩ dX8_find_144 ⟨Nat.le_of_ble_eq_true rfl, Nat.le_of_ble_eq_true rfl⟩) (fun r144 H locs h hB => ?_)
    refine lv_iconst (v := (1 : Int32)) hx hb dX8_find_147 (by decide) ?_
    refine lv_iadd hx hb dX8_find_148 ?_
    refine lv_iadd hx hb dX8_find_149 ?_
    refine lv_topi (fun v150 ev150 => ?_)
    have h := h v150 ev150
    refine lv_istore (lv' := [(9, .int v150), (6, .int v137), (0, .ref (a 0)), (1, .ref (a k1)), (5, .int x5), (7, .long x7), (10, .int x10), (11, .int x11), (12, .long x12)]) hx hb dX8_find_150 hl (by decide) rfl (fun ls hl => ?_)
    refine lv_iload hx hb dX8_find_152 (lv_at hl 7 rfl) ?_
    refine lv_istore (lv' := [(10, .int x11), (9, .int v150), (6, .int v137), (0, .ref (a 0)), (1, .ref (a k1)), (5, .int x5), (7, .long x7), (11, .int x11), (12, .long x12)]) hx hb dX8_find_154 hl (by decide) rfl (fun ls hl => ?_)
    refine lv_goto (tgt := 23) hx hb dX8_find_156 (by decide) ?_
    exact hK23 _ _ _ _ _ _ h H locs ls hB (lv_sub hl [3, 4, 5, 2, 6, 1, 0] rfl)
  · have h := h.2 c41
    refine lv_lload hx hb dX8_find_45 (lv_at hl 4 rfl) ?_
    refine lv_lload hx hb dX8_find_47 (lv_at hl 8 rfl) ?_
    refine lv_lsub hx hb dX8_find_49 ?_
    refine lv_topl (fun v50 ev50 => ?_)
    have h := h v50 ev50
    refine lv_lstore (lv' := [(7, .long v50), (0, .ref (a 0)), (1, .ref (a k1)), (5, .int x5), (6, .int x6), (9, .int x9), (10, .int x10), (11, .int x11), (12, .long x12)]) hx hb dX8_find_50 hl (by decide) rfl (fun ls hl => ?_)
    obtain ⟨v52, ev52⟩ : ∃ z : Int32, z = x11 + (1 : Int32) := ⟨_, rfl⟩
    have h := h v52 ev52
    refine lv_iinc (v := v52) (lv' := [(11, .int v52), (7, .long v50), (0, .ref (a 0)), (1, .ref (a k1)), (5, .int x5), (6, .int x6), (9, .int x9), (10, .int x10), (12, .long x12)]) hx hb dX8_find_52 hl (k := 7) rfl (by rw [ev52]; rfl) (by decide) rfl (fun ls hl => ?_)
    refine lv_aload_n hx hb dX8_find_55 rfl (lv_at hl 2 rfl) ?_
    refine lv_aload_n hx hb dX8_find_56 rfl (lv_at hl 3 rfl) ?_
    refine lv_iload hx hb dX8_find_57 (lv_at hl 0 rfl) ?_
    refine lv_iload hx hb dX8_find_59 (lv_at hl 6 rfl) ?_
    refine lv_iload hx hb dX8_find_61 (lv_at hl 7 rfl) ?_
    refine zz_goip hB hA (zz_runV (As := [.ref (a k1), .int v52, .int x9, .int x10]) (rest := []) hx hb hml hown zw hB zM_X8_199 (zc_X8_fits l D ca a I L H.size hk1 h) zdM_0 rfl rfl hl.1 rfl (Nat.le_of_ble_eq_true rfl) rfl rfl ⟨Nat.le_of_ble_eq_true rfl, Nat.le_of_ble_eq_true rfl⟩ dX8_find_63 ⟨Nat.le_of_ble_eq_true rfl, Nat.le_of_ble_eq_true rfl⟩) (fun r63 H locs h hB => ?_)
    refine lv_if_eq (tgt := 100) hx hb dX8_find_66 (by decide) (fun c66 => ?_) (fun c66 => ?_)
    · have h := h.1 c66
      refine lv_lconst (v := (0 : Int64)) hx hb dX8_find_100 (by decide) ?_
      refine lv_lstore (lv' := [(12, .long (0 : Int64)), (11, .int v52), (7, .long v50), (0, .ref (a 0)), (1, .ref (a k1)), (5, .int x5), (6, .int x6), (9, .int x9), (10, .int x10)]) hx hb dX8_find_101 hl (by decide) rfl (fun ls hl => ?_)
      refine lv_goto (tgt := 37) hx hb dX8_find_103 (by decide) ?_
      exact hK37 _ _ _ h H locs ls hB (lv_sub hl [3, 4, 5, 6, 2, 7, 8, 1, 0] rfl)
    · have h := h.2 c66
      refine lv_iload hx hb dX8_find_69 (lv_at hl 4 rfl) ?_
      refine lv_if_eq (tgt := 86) hx hb dX8_find_71 (by decide) (fun c71 => ?_) (fun c71 => ?_)
      · have h := h.1 c71
        exact zq_X8_find_86 X hA hk1 hK23 hK37 h H locs ls hB (lv_sub hl [2, 3, 4, 5, 1, 6, 7, 0] rfl)
      · have h := h.2 c71
        refine lv_aload_n hx hb dX8_find_74 rfl (lv_at hl 2 rfl) ?_
        refine lv_aload_n hx hb dX8_find_75 rfl (lv_at hl 3 rfl) ?_
        refine lv_iload hx hb dX8_find_76 (lv_at hl 0 rfl) ?_
        refine lv_iload hx hb dX8_find_78 (lv_at hl 6 rfl) ?_
        refine zz_goip hB hA (zz_runV (As := [.ref (a k1), .int v52, .int x9]) (rest := []) hx hb hml hown zw hB zM_X8_206 (zc_X8_agrees l D ca a I L H.size hk1 h) zdM_0 rfl rfl hl.1 rfl (Nat.le_of_ble_eq_true rfl) rfl rfl ⟨Nat.le_of_ble_eq_true rfl, Nat.le_of_ble_eq_true rfl⟩ dX8_find_80 ⟨Nat.le_of_ble_eq_true rfl, Nat.le_of_ble_eq_true rfl⟩) (fun r80 H locs h hB => ?_)
        refine lv_if_eq (tgt := 100) hx hb dX8_find_83 (by decide) (fun c83 => ?_) (fun c83 => ?_)
        · have h := h.1 c83
          refine lv_lconst (v := (0 : Int64)) hx hb dX8_find_100 (by decide) ?_
          refine lv_lstore (lv' := [(12, .long (0 : Int64)), (11, .int v52), (7, .long v50), (0, .ref (a 0)), (1, .ref (a k1)), (5, .int x5), (6, .int x6), (9, .int x9), (10, .int x10)]) hx hb dX8_find_101 hl (by decide) rfl (fun ls hl => ?_)
          refine lv_goto (tgt := 37) hx hb dX8_find_103 (by decide) ?_
          exact hK37 _ _ _ h H locs ls hB (lv_sub hl [3, 4, 5, 6, 2, 7, 8, 1, 0] rfl)
        · have h := h.2 c83
          exact zq_X8_find_86 X hA hk1 hK23 hK37 h H locs ls hB (lv_sub hl [2, 3, 4, 5, 1, 6, 7, 0] rfl)
def zp_X8_find_37 (K23 : Int32 → Int64 → Int32 → Int32 → zz_I → zz_L → Prop) (P : zz_I → zz_L → Prop) (k1 : Nat) (x5 : Int32) (x6 : Int32) (x7 : Int64) (x9 : Int32) (x10 : Int32) (x11 : Int32) (x12 : Int64) (I : zz_I) (L : zz_L) : Prop := ∃ (Inv : Int64 → Int32 → Int64 → Prop) (μ : Int64 → Int32 → Int64 → Nat), Inv x7 x11 x12 ∧ ∀ (y7 : Int64) (y11 : Int32) (y12 : Int64), Inv y7 y11 y12 → zp_X8_find_37b K23 (fun z7 z11 z12 => Inv z7 z11 z12 ∧ μ z7 z11 z12 < μ y7 y11 y12) P k1 x5 x6 y7 x9 x10 y11 y12 I L
set_option maxHeartbeats 4000000 in
set_option maxRecDepth 100000 in
theorem zq_X8_find_37 {p : Program} {l : Launch} {e : Env} {s : State} {m : MethodId} {args : Array Value} {below : List Frame} {meth : Method} {c : Code} {D : va_G} {ca : Nat → ClassId} {A : Nat → Prop} {a : Nat → Nat} {K23 : Int32 → Int64 → Int32 → Int32 → zz_I → zz_L → Prop} {P : zz_I → zz_L → Prop} {I : zz_I} {L : zz_L} {k1 : Nat} {x5 : Int32} {x6 : Int32} {x7 : Int64} {x9 : Int32} {x10 : Int32} {x11 : Int32} {x12 : Int64} (X : zz_X p s m meth c cX8_find RX8 none 14) (hA : ∀ q, s.heap.size ≤ q → A q) (hk1 : zz_dM[k1]? = some (.inl (0, 43))) (hK23 : ∀ (y6 : Int32) (y7 : Int64) (y9 : Int32) (y10 : Int32) (I8 : zz_I) (L8 : zz_L), K23 y6 y7 y9 y10 I8 L8 → zz_Go p l e ({ frames := 4, cells := 0, slots := 0, locals := 100 } : Room) s m args below meth c 0 0 (MQ below (zz_Qv D ca zz_dM A a P) args s 0 0 A) D ca zz_dM A 14 23 a [] [(0, .ref (a 0)), (1, .ref (a k1)), (5, .int x5), (6, .int y6), (7, .long y7), (9, .int y9), (10, .int y10)] I8 L8) (h : zp_X8_find_37 K23 P k1 x5 x6 x7 x9 x10 x11 x12 I L) : zz_Go p l e ({ frames := 4, cells := 0, slots := 0, locals := 100 } : Room) s m args below meth c 0 0 (MQ below (zz_Qv D ca zz_dM A a P) args s 0 0 A) D ca zz_dM A 14 37 a [] [(0, .ref (a 0)), (1, .ref (a k1)), (5, .int x5), (6, .int x6), (7, .long x7), (9, .int x9), (10, .int x10), (11, .int x11), (12, .long x12)] I L := by
  unfold zp_X8_find_37 at h
  obtain ⟨Inv, μ, hv0, hs⟩ := h
  have key : ∀ (n9 : Nat) (y7 : Int64) (y11 : Int32) (y12 : Int64), μ y7 y11 y12 < n9 → Inv y7 y11 y12 → zz_Go p l e ({ frames := 4, cells := 0, slots := 0, locals := 100 } : Room) s m args below meth c 0 0 (MQ below (zz_Qv D ca zz_dM A a P) args s 0 0 A) D ca zz_dM A 14 37 a [] [(0, .ref (a 0)), (1, .ref (a k1)), (5, .int x5), (6, .int x6), (7, .long y7), (9, .int x9), (10, .int x10), (11, .int y11), (12, .long y12)] I L := by
    intro n9
    induction n9 with
    | zero => intro y7 y11 y12 hn; exact absurd hn (Nat.not_lt_zero _)
    | succ n9 ih =>
      intro y7 y11 y12 hn hi
      exact zq_X8_find_37b (K37 := (fun z7 z11 z12 => Inv z7 z11 z12 ∧ μ z7 z11 z12 < μ y7 y11 y12)) X hA hk1 hK23 (fun z7 z11 z12 hz => ih z7 z11 z12 (Nat.lt_of_lt_of_le hz.2 (Nat.le_of_lt_succ hn)) hz.1) (hs y7 y11 y12 hi)
  exact key _ x7 x11 x12 (Nat.lt_succ_self _) hv0
def zp_X8_find_23b (K23 : Int32 → Int64 → Int32 → Int32 → zz_I → zz_L → Prop) (P : zz_I → zz_L → Prop) (k1 : Nat) (x5 : Int32) (x6 : Int32) (x7 : Int64) (x9 : Int32) (x10 : Int32) (I : zz_I) (L : zz_L) : Prop := vp_in (0 : Int32) 43 ∧ (((I k1 (0 : Int32).toNatClampNeg) ≤ x9 → P I L) ∧ (¬ (I k1 (0 : Int32).toNatClampNeg) ≤ x9 → zp_X8_find_37 K23 P k1 x5 x6 x7 x9 x10 (-1 : Int32) (0 : Int64) I L))
set_option maxHeartbeats 4000000 in
set_option maxRecDepth 100000 in
theorem zq_X8_find_23b {p : Program} {l : Launch} {e : Env} {s : State} {m : MethodId} {args : Array Value} {below : List Frame} {meth : Method} {c : Code} {D : va_G} {ca : Nat → ClassId} {A : Nat → Prop} {a : Nat → Nat} {K23 : Int32 → Int64 → Int32 → Int32 → zz_I → zz_L → Prop} {P : zz_I → zz_L → Prop} {I : zz_I} {L : zz_L} {k1 : Nat} {x5 : Int32} {x6 : Int32} {x7 : Int64} {x9 : Int32} {x10 : Int32} (X : zz_X p s m meth c cX8_find RX8 none 14) (hA : ∀ q, s.heap.size ≤ q → A q) (hk1 : zz_dM[k1]? = some (.inl (0, 43))) (hK23 : ∀ (y6 : Int32) (y7 : Int64) (y9 : Int32) (y10 : Int32) (I8 : zz_I) (L8 : zz_L), K23 y6 y7 y9 y10 I8 L8 → zz_Go p l e ({ frames := 4, cells := 0, slots := 0, locals := 100 } : Room) s m args below meth c 0 0 (MQ below (zz_Qv D ca zz_dM A a P) args s 0 0 A) D ca zz_dM A 14 23 a [] [(0, .ref (a 0)), (1, .ref (a k1)), (5, .int x5), (6, .int y6), (7, .long y7), (9, .int y9), (10, .int y10)] I8 L8) (h : zp_X8_find_23b K23 P k1 x5 x6 x7 x9 x10 I L) : zz_Go p l e ({ frames := 4, cells := 0, slots := 0, locals := 100 } : Room) s m args below meth c 0 0 (MQ below (zz_Qv D ca zz_dM A a P) args s 0 0 A) D ca zz_dM A 14 23 a [] [(0, .ref (a 0)), (1, .ref (a k1)), (5, .int x5), (6, .int x6), (7, .long x7), (9, .int x9), (10, .int x10)] I L := by
  obtain ⟨hx, hb, hml, hown, zw, hr, hlocks⟩ := id X
  intro H locs ls hB hl
  unfold zp_X8_find_23b at h
  refine lv_iload hx hb dX8_find_23 (lv_at hl 5 rfl) ?_
  refine lv_aload_n hx hb dX8_find_25 rfl (lv_at hl 1 rfl) ?_
  refine lv_iconst (v := (0 : Int32)) hx hb dX8_find_26 (by decide) ?_
  obtain ⟨hi27, h⟩ := h
  refine zz_iald hx hb hB hk1 hi27 dX8_find_27 ?_
  refine lv_icmp_ge (tgt := 159) hx hb dX8_find_28 (by decide) (fun c28 => ?_) (fun c28 => ?_)
  · have h := h.1 c28
    exact zz_vret hx hb hr hlocks hB h dX8_find_159
  · have h := h.2 c28
    refine lv_iconst (v := (-1 : Int32)) hx hb dX8_find_31 (by decide) ?_
    refine lv_istore (lv' := [(11, .int (-1 : Int32)), (0, .ref (a 0)), (1, .ref (a k1)), (5, .int x5), (6, .int x6), (7, .long x7), (9, .int x9), (10, .int x10)]) hx hb dX8_find_32 hl (by decide) rfl (fun ls hl => ?_)
    refine lv_lconst (v := (0 : Int64)) hx hb dX8_find_34 (by decide) ?_
    refine lv_lstore (lv' := [(12, .long (0 : Int64)), (11, .int (-1 : Int32)), (0, .ref (a 0)), (1, .ref (a k1)), (5, .int x5), (6, .int x6), (7, .long x7), (9, .int x9), (10, .int x10)]) hx hb dX8_find_35 hl (by decide) rfl (fun ls hl => ?_)
    exact zq_X8_find_37 X hA hk1 hK23 h H locs ls hB (lv_sub hl [2, 3, 4, 5, 6, 7, 8, 1, 0] rfl)
def zp_X8_find_23  (P : zz_I → zz_L → Prop) (k1 : Nat) (x5 : Int32) (x6 : Int32) (x7 : Int64) (x9 : Int32) (x10 : Int32) (I : zz_I) (L : zz_L) : Prop := ∃ (Inv : Int32 → Int64 → Int32 → Int32 → zz_I → zz_L → Prop) (μ : Int32 → Int64 → Int32 → Int32 → zz_I → zz_L → Nat), Inv x6 x7 x9 x10 I L ∧ ∀ (y6 : Int32) (y7 : Int64) (y9 : Int32) (y10 : Int32) (I8 : zz_I) (L8 : zz_L), Inv y6 y7 y9 y10 I8 L8 → zp_X8_find_23b  (fun z6 z7 z9 z10 I7 L7 => Inv z6 z7 z9 z10 I7 L7 ∧ μ z6 z7 z9 z10 I7 L7 < μ y6 y7 y9 y10 I8 L8) P k1 x5 y6 y7 y9 y10 I8 L8
set_option maxHeartbeats 4000000 in
set_option maxRecDepth 100000 in
theorem zq_X8_find_23 {p : Program} {l : Launch} {e : Env} {s : State} {m : MethodId} {args : Array Value} {below : List Frame} {meth : Method} {c : Code} {D : va_G} {ca : Nat → ClassId} {A : Nat → Prop} {a : Nat → Nat}  {P : zz_I → zz_L → Prop} {I : zz_I} {L : zz_L} {k1 : Nat} {x5 : Int32} {x6 : Int32} {x7 : Int64} {x9 : Int32} {x10 : Int32} (X : zz_X p s m meth c cX8_find RX8 none 14) (hA : ∀ q, s.heap.size ≤ q → A q) (hk1 : zz_dM[k1]? = some (.inl (0, 43)))  (h : zp_X8_find_23  P k1 x5 x6 x7 x9 x10 I L) : zz_Go p l e ({ frames := 4, cells := 0, slots := 0, locals := 100 } : Room) s m args below meth c 0 0 (MQ below (zz_Qv D ca zz_dM A a P) args s 0 0 A) D ca zz_dM A 14 23 a [] [(0, .ref (a 0)), (1, .ref (a k1)), (5, .int x5), (6, .int x6), (7, .long x7), (9, .int x9), (10, .int x10)] I L := by
  unfold zp_X8_find_23 at h
  obtain ⟨Inv, μ, hv0, hs⟩ := h
  have key : ∀ (n9 : Nat) (y6 : Int32) (y7 : Int64) (y9 : Int32) (y10 : Int32) (I8 : zz_I) (L8 : zz_L), μ y6 y7 y9 y10 I8 L8 < n9 → Inv y6 y7 y9 y10 I8 L8 → zz_Go p l e ({ frames := 4, cells := 0, slots := 0, locals := 100 } : Room) s m args below meth c 0 0 (MQ below (zz_Qv D ca zz_dM A a P) args s 0 0 A) D ca zz_dM A 14 23 a [] [(0, .ref (a 0)), (1, .ref (a k1)), (5, .int x5), (6, .int y6), (7, .long y7), (9, .int y9), (10, .int y10)] I8 L8 := by
    intro n9
    induction n9 with
    | zero => intro y6 y7 y9 y10 I8 L8 hn; exact absurd hn (Nat.not_lt_zero _)
    | succ n9 ih =>
      intro y6 y7 y9 y10 I8 L8 hn hi
      exact zq_X8_find_23b (K23 := (fun z6 z7 z9 z10 I7 L7 => Inv z6 z7 z9 z10 I7 L7 ∧ μ z6 z7 z9 z10 I7 L7 < μ y6 y7 y9 y10 I8 L8)) X hA hk1  (fun z6 z7 z9 z10 I7 L7 hz => ih z6 z7 z9 z10 I7 L7 (Nat.lt_of_lt_of_le hz.2 (Nat.le_of_lt_succ hn)) hz.1) (hs y6 y7 y9 y10 I8 L8 hi)
  exact key _ x6 x7 x9 x10 I L (Nat.lt_succ_self _) hv0
def zp_X8_find (k1 : Nat) (x2 : Int32) (x3 : Int64) (x5 : Int32) (P : zz_I → zz_L → Prop) (I : zz_I) (L : zz_L) : Prop := ∀ I2 : zz_I, I2 = zz_up I 0 33 (0 : Int32) → (∀ I7 : zz_I, I7 = zz_up I2 0 34 x2 → (zp_X8_find_23 P k1 x5 x2 x3 (0 : Int32) (8 : Int32) I7 L))
set_option maxHeartbeats 4000000 in
set_option maxRecDepth 100000 in
theorem zq_X8_find {p : Program} {l : Launch} {e : Env} {s : State} {m : MethodId} {args : Array Value} {below : List Frame} {meth : Method} {c : Code} {D : va_G} {ca : Nat → ClassId} {A : Nat → Prop} {a : Nat → Nat}  {P : zz_I → zz_L → Prop} {I : zz_I} {L : zz_L} {k1 : Nat} {x2 : Int32} {x3 : Int64} {x5 : Int32} (X : zz_X p s m meth c cX8_find RX8 none 14) (hA : ∀ q, s.heap.size ≤ q → A q) (hk1 : zz_dM[k1]? = some (.inl (0, 43)))  (h : zp_X8_find k1 x2 x3 x5 P I L) : zz_Go p l e ({ frames := 4, cells := 0, slots := 0, locals := 100 } : Room) s m args below meth c 0 0 (MQ below (zz_Qv D ca zz_dM A a P) args s 0 0 A) D ca zz_dM A 14 0 a [] [(0, .ref (a 0)), (1, .ref (a k1)), (2, .int x2), (3, .long x3), (5, .int x5)] I L := by
  obtain ⟨hx, hb, hml, hown, zw, hr, hlocks⟩ := id X
  intro H locs ls hB hl
  unfold zp_X8_find at h
  refine lv_aload_n hx hb dX8_find_0 rfl (lv_at hl 0 rfl) ?_
  refine lv_iconst (v := (0 : Int32)) hx hb dX8_find_1 (by decide) ?_
  refine zz_puti hx hb hown zw hB zP_X8_213 zdM_0 rfl dX8_find_2 (fun H locs hB => ?_)
  obtain ⟨I2, eI2⟩ : ∃ z : zz_I, z = zz_up I 0 33 (0 : Int32) := ⟨_, rfl⟩
  rw [← eI2] at hB
  have h := h I2 eI2
  refine lv_aload_n hx hb dX8_find_5 rfl (lv_at hl 0 rfl) ?_
  refine lv_iload_n hx hb dX8_find_6 rfl (lv_at hl 2 rfl) ?_
  refine zz_puti hx hb hown zw hB zP_X8_216 zdM_0 rfl dX8_find_7 (fun H locs hB => ?_)
  obtain ⟨I7, eI7⟩ : ∃ z : zz_I, z = zz_up I2 0 34 x2 := ⟨_, rfl⟩
  rw [← eI7] at hB
  have h := h I7 eI7
  refine lv_iload_n hx hb dX8_find_10 rfl (lv_at hl 2 rfl) ?_
  refine lv_istore (lv' := [(6, .int x2), (0, .ref (a 0)), (1, .ref (a k1)), (2, .int x2), (3, .long x3), (5, .int x5)]) hx hb dX8_find_11 hl (by decide) rfl (fun ls hl => ?_)
  refine lv_lload_n hx hb dX8_find_13 rfl (lv_at hl 4 rfl) ?_
  refine lv_lstore (lv' := [(7, .long x3), (6, .int x2), (0, .ref (a 0)), (1, .ref (a k1)), (2, .int x2), (3, .long x3), (5, .int x5)]) hx hb dX8_find_14 hl (by decide) rfl (fun ls hl => ?_)
  refine lv_iconst (v := (0 : Int32)) hx hb dX8_find_16 (by decide) ?_
  refine lv_istore (lv' := [(9, .int (0 : Int32)), (7, .long x3), (6, .int x2), (0, .ref (a 0)), (1, .ref (a k1)), (2, .int x2), (3, .long x3), (5, .int x5)]) hx hb dX8_find_17 hl (by decide) rfl (fun ls hl => ?_)
  refine lv_bipush (v := (8 : Int32)) hx hb dX8_find_19 (by decide) ?_
  refine lv_istore (lv' := [(10, .int (8 : Int32)), (9, .int (0 : Int32)), (7, .long x3), (6, .int x2), (0, .ref (a 0)), (1, .ref (a k1)), (2, .int x2), (3, .long x3), (5, .int x5)]) hx hb dX8_find_21 hl (by decide) rfl (fun ls hl => ?_)
  exact zq_X8_find_23 X hA hk1 h H locs ls hB (lv_sub hl [4, 5, 8, 3, 2, 1, 0] rfl)
theorem zc_X8_find (l : Launch) (D : va_G) (ca : Nat → ClassId) (a : Nat → Nat) (I : zz_I) (L : zz_L) (sz : Nat) {k1 : Nat} {x2 : Int32} {x3 : Int64} {x5 : Int32} {P : zz_I → zz_L → Prop} (hk1 : zz_dM[k1]? = some (.inl (0, 43))) (h : zp_X8_find k1 x2 x3 x5 P I L) : Met l yX8_find [.code yX8_find cX8_find 14 none] ({ frames := 4, cells := 0, slots := 0, locals := 100 } : Room) (zz_Pre D ca zz_dM [.ref (a 0), .ref (a k1), .int x2, .long x3, .int x5] a I L sz) (zz_Qv D ca zz_dM (zz_A ca zz_dM a I L sz) a P) 0 0 (zz_A ca zz_dM a I L sz) :=
  zz_start (by decide) (Nat.le_of_ble_eq_true rfl) (fun p e s m below meth c X hsz hA => zq_X8_find X hA hk1 h)
def zp_X8_findRank_57 (K13 : Int64 → Int32 → Prop) (P : Int32 → zz_I → zz_L → Prop) (k1 : Nat) (x4 : Int64) (x6 : Int32) (x7 : Int64) (I : zz_I) (L : zz_L) : Prop := ∀ v62 : Int64, v62 = x4 - x7 → (∀ v64 : Int32, v64 = x6 + (-1 : Int32) → (K13 v62 v64))
set_option maxHeartbeats 4000000 in
set_option maxRecDepth 100000 in
theorem zq_X8_findRank_57 {p : Program} {l : Launch} {e : Env} {s : State} {m : MethodId} {args : Array Value} {below : List Frame} {meth : Method} {c : Code} {D : va_G} {ca : Nat → ClassId} {A : Nat → Prop} {a : Nat → Nat} {K13 : Int64 → Int32 → Prop} {P : Int32 → zz_I → zz_L → Prop} {I : zz_I} {L : zz_L} {k1 : Nat} {x4 : Int64} {x6 : Int32} {x7 : Int64} (X : zz_X p s m meth c cX8_findRank RX8 (some .boolean) 9) (hA : ∀ q, s.heap.size ≤ q → A q) (hk1 : zz_dM[k1]? = some (.inl (0, 43))) (hK13 : ∀ (y4 : Int64) (y6 : Int32), K13 y4 y6 → zz_Go p l e ({ frames := 5, cells := 0, slots := 0, locals := 133 } : Room) s m args below meth c 0 0 (MQ below (zz_Qi D ca zz_dM A a P) args s 0 0 A) D ca zz_dM A 9 13 a [] [(0, .ref (a 0)), (1, .ref (a k1)), (4, .long y4), (6, .int y6)] I L) (h : zp_X8_findRank_57 K13 P k1 x4 x6 x7 I L) : zz_Go p l e ({ frames := 5, cells := 0, slots := 0, locals := 133 } : Room) s m args below meth c 0 0 (MQ below (zz_Qi D ca zz_dM A a P) args s 0 0 A) D ca zz_dM A 9 57 a [] [(0, .ref (a 0)), (1, .ref (a k1)), (4, .long x4), (6, .int x6), (7, .long x7)] I L := by
  obtain ⟨hx, hb, hml, hown, zw, hr, hlocks⟩ := id X
  intro H locs ls hB hl
  unfold zp_X8_findRank_57 at h
  refine lv_lload hx hb dX8_findRank_57 (lv_at hl 2 rfl) ?_
  refine lv_lload hx hb dX8_findRank_59 (lv_at hl 4 rfl) ?_
  refine lv_lsub hx hb dX8_findRank_61 ?_
  refine lv_topl (fun v62 ev62 => ?_)
  have h := h v62 ev62
  refine lv_lstore (lv' := [(4, .long v62), (0, .ref (a 0)), (1, .ref (a k1)), (6, .int x6), (7, .long x7)]) hx hb dX8_findRank_62 hl (by decide) rfl (fun ls hl => ?_)
  obtain ⟨v64, ev64⟩ : ∃ z : Int32, z = x6 + (-1 : Int32) := ⟨_, rfl⟩
  have h := h v64 ev64
  refine lv_iinc (v := v64) (lv' := [(6, .int v64), (4, .long v62), (0, .ref (a 0)), (1, .ref (a k1)), (7, .long x7)]) hx hb dX8_findRank_64 hl (k := 3) rfl (by rw [ev64]; rfl) (by decide) rfl (fun ls hl => ?_)
  refine lv_goto (tgt := 13) hx hb dX8_findRank_67 (by decide) ?_
  exact hK13 _ _ h H locs ls hB (lv_sub hl [2, 3, 1, 0] rfl)
def zp_X8_findRank_13b (K13 : Int64 → Int32 → Prop) (P : Int32 → zz_I → zz_L → Prop) (k1 : Nat) (x4 : Int64) (x6 : Int32) (I : zz_I) (L : zz_L) : Prop := (x6 < 0 → P (0 : Int32) I L) ∧ (¬ x6 < 0 → vp_in ((584 : Int32) + x6) 16425 ∧ (∀ v29 : Int64, v29 = L 22 ((584 : Int32) + x6).toNatClampNeg → ((v29 ≤ x4 → zp_X8_findRank_57 K13 P k1 x4 x6 v29 I L) ∧ (¬ v29 ≤ x4 → vp_in (0 : Int32) 43 ∧ (((I k1 (0 : Int32).toNatClampNeg) ≤ 0 → zp_X8_findRank_57 K13 P k1 x4 x6 v29 I L) ∧ (¬ (I k1 (0 : Int32).toNatClampNeg) ≤ 0 → zp_X8_find k1 x6 x4 (0 : Int32) (fun I52 L52 => P (1 : Int32) I52 L52) I L))))))
set_option maxHeartbeats 4000000 in
set_option maxRecDepth 100000 in
theorem zq_X8_findRank_13b {p : Program} {l : Launch} {e : Env} {s : State} {m : MethodId} {args : Array Value} {below : List Frame} {meth : Method} {c : Code} {D : va_G} {ca : Nat → ClassId} {A : Nat → Prop} {a : Nat → Nat} {K13 : Int64 → Int32 → Prop} {P : Int32 → zz_I → zz_L → Prop} {I : zz_I} {L : zz_L} {k1 : Nat} {x4 : Int64} {x6 : Int32} (X : zz_X p s m meth c cX8_findRank RX8 (some .boolean) 9) (hA : ∀ q, s.heap.size ≤ q → A q) (hk1 : zz_dM[k1]? = some (.inl (0, 43))) (hK13 : ∀ (y4 : Int64) (y6 : Int32), K13 y4 y6 → zz_Go p l e ({ frames := 5, cells := 0, slots := 0, locals := 133 } : Room) s m args below meth c 0 0 (MQ below (zz_Qi D ca zz_dM A a P) args s 0 0 A) D ca zz_dM A 9 13 a [] [(0, .ref (a 0)), (1, .ref (a k1)), (4, .long y4), (6, .int y6)] I L) (h : zp_X8_findRank_13b K13 P k1 x4 x6 I L) : zz_Go p l e ({ frames := 5, cells := 0, slots := 0, locals := 133 } : Room) s m args below meth c 0 0 (MQ below (zz_Qi D ca zz_dM A a P) args s 0 0 A) D ca zz_dM A 9 13 a [] [(0, .ref (a 0)), (1, .ref (a k1)), (4, .long x4), (6, .int x6)] I L := by
  obtain ⟨hx, hb, hml, hown, zw, hr, hlocks⟩ := id X
  intro H locs ls hB hl
  unfold zp_X8_findRank_13b at h
  refine lv_iload hx hb dX8_findRank_13 (lv_at hl 3 rfl) ?_
  refine lv_if_lt (tgt := 70) hx hb dX8_findRank_15 (by decide) (fun c15 => ?_) (fun c15 => ?_)
  · have h := h.1 c15
    refine lv_iconst (v := (0 : Int32)) hx hb dX8_findRank_70 (by decide) ?_
    exact zz_zret hx hb hr hlocks zz_bool0 hB h dX8_findRank_71
  · have h := h.2 c15
    refine lv_aload_n hx hb dX8_findRank_18 rfl (lv_at hl 0 rfl) ?_
    refine zz_getr (k' := 22) hx hb hown zw hB zF_X8_74 zdM_0 rfl rfl dX8_findRank_19 ?_
    refine lv_sipush (v := (584 : Int32)) hx hb dX8_findRank_22 (by decide) ?_
    refine lv_iload hx hb dX8_findRank_25 (lv_at hl 3 rfl) ?_
    refine lv_iadd hx hb dX8_findRank_27 ?_
    obtain ⟨hi28, h⟩ := h
    refine zz_lald hx hb hB zdM_22 hi28 dX8_findRank_28 ?_
    refine lv_topl (fun v29 ev29 => ?_)
    have h := h v29 ev29
    refine lv_lstore (lv' := [(7, .long v29), (0, .ref (a 0)), (1, .ref (a k1)), (4, .long x4), (6, .int x6)]) hx hb dX8_findRank_29 hl (by decide) rfl (fun ls hl => ?_)
    refine lv_lload hx hb dX8_findRank_31 (lv_at hl 3 rfl) ?_
    refine lv_lload hx hb dX8_findRank_33 (lv_at hl 0 rfl) ?_
    refine zz_l_ge (tgt := 57) hx hb dX8_findRank_35 dX8_findRank_36 (by decide) (fun c35 => ?_) (fun c35 => ?_)
    · have h := h.1 c35
      exact zq_X8_findRank_57 X hA hk1 hK13 h H locs ls hB (lv_sub hl [1, 2, 3, 4, 0] rfl)
    · have h := h.2 c35
      refine lv_aload_n hx hb dX8_findRank_39 rfl (lv_at hl 2 rfl) ?_
      refine lv_iconst (v := (0 : Int32)) hx hb dX8_findRank_40 (by decide) ?_
      obtain ⟨hi41, h⟩ := h
      refine zz_iald hx hb hB hk1 hi41 dX8_findRank_41 ?_
      refine lv_if_le (tgt := 57) hx hb dX8_findRank_42 (by decide) (fun c42 => ?_) (fun c42 => ?_)
      · have h := h.1 c42
        exact zq_X8_findRank_57 X hA hk1 hK13 h H locs ls hB (lv_sub hl [1, 2, 3, 4, 0] rfl)
      · have h := h.2 c42
        refine lv_aload_n hx hb dX8_findRank_45 rfl (lv_at hl 1 rfl) ?_
        refine lv_aload_n hx hb dX8_findRank_46 rfl (lv_at hl 2 rfl) ?_
        refine lv_iload hx hb dX8_findRank_47 (lv_at hl 4 rfl) ?_
        refine lv_lload hx hb dX8_findRank_49 (lv_at hl 3 rfl) ?_
        refine lv_iconst (v := (0 : Int32)) hx hb dX8_findRank_51 (by decide) ?_
        refine zz_gov hB hA (zz_runV (As := [.ref (a k1), .int x6, .long x4, .int (0 : Int32)]) (rest := []) hx hb hml hown zw hB zM_X8_227 (zc_X8_find l D ca a I L H.size hk1 h) zdM_0 rfl rfl hl.1 rfl (Nat.le_of_ble_eq_true rfl) rfl rfl ⟨Nat.le_of_ble_eq_true rfl, Nat.le_of_ble_eq_true rfl⟩ dX8_findRank_52 ⟨Nat.le_of_ble_eq_true rfl, Nat.le_of_ble_eq_true rfl⟩) (fun I52 L52 H locs h hB => ?_)
        refine lv_iconst (v := (1 : Int32)) hx hb dX8_findRank_55 (by decide) ?_
        exact zz_zret hx hb hr hlocks zz_bool1 hB h dX8_findRank_56
def zp_X8_findRank_13  (P : Int32 → zz_I → zz_L → Prop) (k1 : Nat) (x4 : Int64) (x6 : Int32) (I : zz_I) (L : zz_L) : Prop := ∃ (Inv : Int64 → Int32 → Prop) (μ : Int64 → Int32 → Nat), Inv x4 x6 ∧ ∀ (y4 : Int64) (y6 : Int32), Inv y4 y6 → zp_X8_findRank_13b  (fun z4 z6 => Inv z4 z6 ∧ μ z4 z6 < μ y4 y6) P k1 y4 y6 I L
set_option maxHeartbeats 4000000 in
set_option maxRecDepth 100000 in
theorem zq_X8_findRank_13 {p : Program} {l : Launch} {e : Env} {s : State} {m : MethodId} {args : Array Value} {below : List Frame} {meth : Method} {c : Code} {D : va_G} {ca : Nat → ClassId} {A : Nat → Prop} {a : Nat → Nat}  {P : Int32 → zz_I → zz_L → Prop} {I : zz_I} {L : zz_L} {k1 : Nat} {x4 : Int64} {x6 : Int32} (X : zz_X p s m meth c cX8_findRank RX8 (some .boolean) 9) (hA : ∀ q, s.heap.size ≤ q → A q) (hk1 : zz_dM[k1]? = some (.inl (0, 43)))  (h : zp_X8_findRank_13  P k1 x4 x6 I L) : zz_Go p l e ({ frames := 5, cells := 0, slots := 0, locals := 133 } : Room) s m args below meth c 0 0 (MQ below (zz_Qi D ca zz_dM A a P) args s 0 0 A) D ca zz_dM A 9 13 a [] [(0, .ref (a 0)), (1, .ref (a k1)), (4, .long x4), (6, .int x6)] I L := by
  unfold zp_X8_findRank_13 at h
  obtain ⟨Inv, μ, hv0, hs⟩ := h
  have key : ∀ (n9 : Nat) (y4 : Int64) (y6 : Int32), μ y4 y6 < n9 → Inv y4 y6 → zz_Go p l e ({ frames := 5, cells := 0, slots := 0, locals := 133 } : Room) s m args below meth c 0 0 (MQ below (zz_Qi D ca zz_dM A a P) args s 0 0 A) D ca zz_dM A 9 13 a [] [(0, .ref (a 0)), (1, .ref (a k1)), (4, .long y4), (6, .int y6)] I L := by
    intro n9
    induction n9 with
    | zero => intro y4 y6 hn; exact absurd hn (Nat.not_lt_zero _)
    | succ n9 ih =>
      intro y4 y6 hn hi
      exact zq_X8_findRank_13b (K13 := (fun z4 z6 => Inv z4 z6 ∧ μ z4 z6 < μ y4 y6)) X hA hk1  (fun z4 z6 hz => ih z4 z6 (Nat.lt_of_lt_of_le hz.2 (Nat.le_of_lt_succ hn)) hz.1) (hs y4 y6 hi)
  exact key _ x4 x6 (Nat.lt_succ_self _) hv0
def zp_X8_findRank (k1 : Nat) (x2 : Int64) (P : Int32 → zz_I → zz_L → Prop) (I : zz_I) (L : zz_L) : Prop := zp_X8_layHeavy k1 (0 : Int32) (fun I3 L3 => zp_X8_findRank_13 P k1 x2 (72 : Int32) I3 L3) I L
set_option maxHeartbeats 4000000 in
set_option maxRecDepth 100000 in
theorem zq_X8_findRank {p : Program} {l : Launch} {e : Env} {s : State} {m : MethodId} {args : Array Value} {below : List Frame} {meth : Method} {c : Code} {D : va_G} {ca : Nat → ClassId} {A : Nat → Prop} {a : Nat → Nat}  {P : Int32 → zz_I → zz_L → Prop} {I : zz_I} {L : zz_L} {k1 : Nat} {x2 : Int64} (X : zz_X p s m meth c cX8_findRank RX8 (some .boolean) 9) (hA : ∀ q, s.heap.size ≤ q → A q) (hk1 : zz_dM[k1]? = some (.inl (0, 43)))  (h : zp_X8_findRank k1 x2 P I L) : zz_Go p l e ({ frames := 5, cells := 0, slots := 0, locals := 133 } : Room) s m args below meth c 0 0 (MQ below (zz_Qi D ca zz_dM A a P) args s 0 0 A) D ca zz_dM A 9 0 a [] [(0, .ref (a 0)), (1, .ref (a k1)), (2, .long x2)] I L := by
  obtain ⟨hx, hb, hml, hown, zw, hr, hlocks⟩ := id X
  intro H locs ls hB hl
  unfold zp_X8_findRank at h
  refine lv_aload_n hx hb dX8_findRank_0 rfl (lv_at hl 0 rfl) ?_
  refine lv_aload_n hx hb dX8_findRank_1 rfl (lv_at hl 1 rfl) ?_
  refine lv_iconst (v := (0 : Int32)) hx hb dX8_findRank_2 (by decide) ?_
  refine zz_gov hB hA (zz_runV (As := [.ref (a k1), .int (0 : Int32)]) (rest := []) hx hb hml hown zw hB zM_X8_223 (zc_X8_layHeavy l D ca a I L H.size hk1 h) zdM_0 rfl rfl hl.1 rfl (Nat.le_of_ble_eq_true rfl) rfl rfl ⟨Nat.le_of_ble_eq_true rfl, Nat.le_of_ble_eq_true rfl⟩ dX8_findRank_3 ⟨Nat.le_of_ble_eq_true rfl, Nat.le_of_ble_eq_true rfl⟩) (fun I3 L3 H locs h hB => ?_)
  refine lv_lload_n hx hb dX8_findRank_6 rfl (lv_at hl 2 rfl) ?_
  refine lv_lstore (lv' := [(4, .long x2), (0, .ref (a 0)), (1, .ref (a k1)), (2, .long x2)]) hx hb dX8_findRank_7 hl (by decide) rfl (fun ls hl => ?_)
  refine lv_bipush (v := (72 : Int32)) hx hb dX8_findRank_9 (by decide) ?_
  refine lv_istore (lv' := [(6, .int (72 : Int32)), (4, .long x2), (0, .ref (a 0)), (1, .ref (a k1)), (2, .long x2)]) hx hb dX8_findRank_11 hl (by decide) rfl (fun ls hl => ?_)
  exact zq_X8_findRank_13 X hA hk1 h H locs ls hB (lv_sub hl [2, 3, 1, 0] rfl)
theorem zc_X8_findRank (l : Launch) (D : va_G) (ca : Nat → ClassId) (a : Nat → Nat) (I : zz_I) (L : zz_L) (sz : Nat) {k1 : Nat} {x2 : Int64} {P : Int32 → zz_I → zz_L → Prop} (hk1 : zz_dM[k1]? = some (.inl (0, 43))) (h : zp_X8_findRank k1 x2 P I L) : Met l yX8_findRank [.code yX8_findRank cX8_findRank 9 (some .boolean)] ({ frames := 5, cells := 0, slots := 0, locals := 133 } : Room) (zz_Pre D ca zz_dM [.ref (a 0), .ref (a k1), .long x2] a I L sz) (zz_Qi D ca zz_dM (zz_A ca zz_dM a I L sz) a P) 0 0 (zz_A ca zz_dM a I L sz) :=
  zz_start (by decide) (Nat.le_of_ble_eq_true rfl) (fun p e s m below meth c X hsz hA => zq_X8_findRank X hA hk1 h)
def zp_X8_drawn_92 (K35 : Int32 → Int32 → zz_I → zz_L → Prop) (P : Int32 → zz_I → zz_L → Prop) (x1 : Int32) (x2 : Int64) (x5 : Int32) (s0 : Int32) (I : zz_I) (L : zz_L) : Prop := ∀ v94 : Int32, v94 = s0 + (0 : Int32) → (∀ v96 : Int32, v96 = x5 + (1 : Int32) → (K35 v94 v96 I L))
set_option maxHeartbeats 4000000 in
set_option maxRecDepth 100000 in
theorem zq_X8_drawn_92 {p : Program} {l : Launch} {e : Env} {s : State} {m : MethodId} {args : Array Value} {below : List Frame} {meth : Method} {c : Code} {D : va_G} {ca : Nat → ClassId} {A : Nat → Prop} {a : Nat → Nat} {K35 : Int32 → Int32 → zz_I → zz_L → Prop} {P : Int32 → zz_I → zz_L → Prop} {I : zz_I} {L : zz_L} {x1 : Int32} {x2 : Int64} {x5 : Int32} {s0 : Int32} (X : zz_X p s m meth c cX8_drawn RX8 (some .int) 6) (hA : ∀ q, s.heap.size ≤ q → A q)  (hK35 : ∀ (y4 : Int32) (y5 : Int32) (I8 : zz_I) (L8 : zz_L), K35 y4 y5 I8 L8 → zz_Go p l e ({ frames := 6, cells := 0, slots := 0, locals := 161 } : Room) s m args below meth c 0 0 (MQ below (zz_Qi D ca zz_dM A a P) args s 0 0 A) D ca zz_dM A 6 35 a [] [(0, .ref (a 0)), (1, .int x1), (2, .long x2), (4, .int y4), (5, .int y5)] I8 L8) (h : zp_X8_drawn_92 K35 P x1 x2 x5 s0 I L) : zz_Go p l e ({ frames := 6, cells := 0, slots := 0, locals := 161 } : Room) s m args below meth c 0 0 (MQ below (zz_Qi D ca zz_dM A a P) args s 0 0 A) D ca zz_dM A 6 92 a [.int s0] [(0, .ref (a 0)), (1, .int x1), (2, .long x2), (5, .int x5)] I L := by
  obtain ⟨hx, hb, hml, hown, zw, hr, hlocks⟩ := id X
  intro H locs ls hB hl
  unfold zp_X8_drawn_92 at h
  refine lv_iconst (v := (0 : Int32)) hx hb dX8_drawn_92 (by decide) ?_
  refine lv_iadd hx hb dX8_drawn_93 ?_
  refine lv_topi (fun v94 ev94 => ?_)
  have h := h v94 ev94
  refine lv_istore (lv' := [(4, .int v94), (0, .ref (a 0)), (1, .int x1), (2, .long x2), (5, .int x5)]) hx hb dX8_drawn_94 hl (by decide) rfl (fun ls hl => ?_)
  obtain ⟨v96, ev96⟩ : ∃ z : Int32, z = x5 + (1 : Int32) := ⟨_, rfl⟩
  have h := h v96 ev96
  refine lv_iinc (v := v96) (lv' := [(5, .int v96), (4, .int v94), (0, .ref (a 0)), (1, .int x1), (2, .long x2)]) hx hb dX8_drawn_96 hl (k := 4) rfl (by rw [ev96]; rfl) (by decide) rfl (fun ls hl => ?_)
  refine lv_goto (tgt := 35) hx hb dX8_drawn_99 (by decide) ?_
  exact hK35 _ _ _ _ h H locs ls hB (lv_sub hl [2, 3, 4, 1, 0] rfl)
def zp_X8_drawn_35b (K35 : Int32 → Int32 → zz_I → zz_L → Prop) (P : Int32 → zz_I → zz_L → Prop) (x1 : Int32) (x2 : Int64) (x4 : Int32) (x5 : Int32) (I : zz_I) (L : zz_L) : Prop := (x1 ≤ x5 → P x4 I L) ∧ (¬ x1 ≤ x5 → ∀ L54 : zz_L, L54 = zz_up L 0 28 (((L 0 28) * (6364136223846793005 : Int64)) + (1442695040888963407 : Int64)) → ((x2 ≤ (0 : Int64) → zp_X8_drawn_92 K35 P x1 x2 x5 x4 I L54) ∧ (¬ x2 ≤ (0 : Int64) → ¬ x2 = 0 ∧ (zp_X8_findRank 14 ((((L54 0 28).toUInt64 >>> ((33 : Int32).toInt64.toUInt64 &&& Int64.toUInt64 63)).toInt64) - (((L54 0 28).toUInt64 >>> ((33 : Int32).toInt64.toUInt64 &&& Int64.toUInt64 63)).toInt64) / x2 * x2) (fun r79 I79 L79 => (r79 = 0 → zp_X8_drawn_92 K35 P x1 x2 x5 x4 I79 L79) ∧ (¬ r79 = 0 → ∀ v94 : Int32, v94 = x4 + (I79 0 34) → (∀ v96 : Int32, v96 = x5 + (1 : Int32) → (K35 v94 v96 I79 L79)))) I L54))))
set_option maxHeartbeats 4000000 in
set_option maxRecDepth 100000 in
theorem zq_X8_drawn_35b {p : Program} {l : Launch} {e : Env} {s : State} {m : MethodId} {args : Array Value} {below : List Frame} {meth : Method} {c : Code} {D : va_G} {ca : Nat → ClassId} {A : Nat → Prop} {a : Nat → Nat} {K35 : Int32 → Int32 → zz_I → zz_L → Prop} {P : Int32 → zz_I → zz_L → Prop} {I : zz_I} {L : zz_L} {x1 : Int32} {x2 : Int64} {x4 : Int32} {x5 : Int32} (X : zz_X p s m meth c cX8_drawn RX8 (some .int) 6) (hA : ∀ q, s.heap.size ≤ q → A q)  (hK35 : ∀ (y4 : Int32) (y5 : Int32) (I8 : zz_I) (L8 : zz_L), K35 y4 y5 I8 L8 → zz_Go p l e ({ frames := 6, cells := 0, slots := 0, locals := 161 } : Room) s m args below meth c 0 0 (MQ below (zz_Qi D ca zz_dM A a P) args s 0 0 A) D ca zz_dM A 6 35 a [] [(0, .ref (a 0)), (1, .int x1), (2, .long x2), (4, .int y4), (5, .int y5)] I8 L8) (h : zp_X8_drawn_35b K35 P x1 x2 x4 x5 I L) : zz_Go p l e ({ frames := 6, cells := 0, slots := 0, locals := 161 } : Room) s m args below meth c 0 0 (MQ below (zz_Qi D ca zz_dM A a P) args s 0 0 A) D ca zz_dM A 6 35 a [] [(0, .ref (a 0)), (1, .int x1), (2, .long x2), (4, .int x4), (5, .int x5)] I L := by
  obtain ⟨hx, hb, hml, hown, zw, hr, hlocks⟩ := id X
  intro H locs ls hB hl
  unfold zp_X8_drawn_35b at h
  refine lv_iload hx hb dX8_drawn_35 (lv_at hl 4 rfl) ?_
  refine lv_iload_n hx hb dX8_drawn_37 rfl (lv_at hl 1 rfl) ?_
  refine lv_icmp_ge (tgt := 102) hx hb dX8_drawn_38 (by decide) (fun c38 => ?_) (fun c38 => ?_)
  · have h := h.1 c38
    refine lv_iload hx hb dX8_drawn_102 (lv_at hl 3 rfl) ?_
    exact zz_iret hx hb hr hlocks hB h dX8_drawn_104
  · have h := h.2 c38
    refine lv_aload_n hx hb dX8_drawn_41 rfl (lv_at hl 0 rfl) ?_
    refine lv_aload_n hx hb dX8_drawn_42 rfl (lv_at hl 0 rfl) ?_
    refine zz_getl hx hb hown zw hB zF_X8_301 zdM_0 rfl dX8_drawn_43 ?_
    refine lv_ldc2 (v := (6364136223846793005 : Int64)) hx hb hown (zz_W_use zw zk_X8_307 rfl) dX8_drawn_46 ?_
    refine lv_lmul hx hb dX8_drawn_49 ?_
    refine lv_ldc2 (v := (1442695040888963407 : Int64)) hx hb hown (zz_W_use zw zk_X8_309 rfl) dX8_drawn_50 ?_
    refine lv_ladd hx hb dX8_drawn_53 ?_
    refine zz_putl hx hb hown zw hB zP_X8_301 zdM_0 rfl dX8_drawn_54 (fun H locs hB => ?_)
    obtain ⟨L54, eL54⟩ : ∃ z : zz_L, z = zz_up L 0 28 (((L 0 28) * (6364136223846793005 : Int64)) + (1442695040888963407 : Int64)) := ⟨_, rfl⟩
    rw [← eL54] at hB
    have h := h L54 eL54
    refine lv_iload hx hb dX8_drawn_57 (lv_at hl 3 rfl) ?_
    refine lv_lload_n hx hb dX8_drawn_59 rfl (lv_at hl 2 rfl) ?_
    refine lv_lconst (v := (0 : Int64)) hx hb dX8_drawn_60 (by decide) ?_
    refine zz_l_le (tgt := 92) hx hb dX8_drawn_61 dX8_drawn_62 (by decide) (fun c61 => ?_) (fun c61 => ?_)
    · have h := h.1 c61
      exact zq_X8_drawn_92 X hA hK35 h H locs ls hB (lv_sub hl [0, 1, 2, 4] rfl)
    · have h := h.2 c61
      refine lv_aload_n hx hb dX8_drawn_65 rfl (lv_at hl 0 rfl) ?_
      refine lv_aload_n hx hb dX8_drawn_66 rfl (lv_at hl 0 rfl) ?_
      refine zz_getr (k' := 14) hx hb hown zw hB zF_X8_50 zdM_0 rfl rfl dX8_drawn_67 ?_
      refine lv_aload_n hx hb dX8_drawn_70 rfl (lv_at hl 0 rfl) ?_
      refine zz_getl hx hb hown zw hB zF_X8_301 zdM_0 rfl dX8_drawn_71 ?_
      refine lv_bipush (v := (33 : Int32)) hx hb dX8_drawn_74 (by decide) ?_
      refine lv_lushr (v := ((L54 0 28).toUInt64 >>> ((33 : Int32).toInt64.toUInt64 &&& Int64.toUInt64 63)).toInt64) hx hb dX8_drawn_76 rfl ?_
      refine lv_lload_n hx hb dX8_drawn_77 rfl (lv_at hl 2 rfl) ?_
      obtain ⟨h78, h⟩ := h
      refine lv_lrem hx hb dX8_drawn_78 h78 ?_
      refine zz_goi hB hA (zz_runV (As := [.ref (a 14), .long ((((L54 0 28).toUInt64 >>> ((33 : Int32).toInt64.toUInt64 &&& Int64.toUInt64 63)).toInt64) - (((L54 0 28).toUInt64 >>> ((33 : Int32).toInt64.toUInt64 &&& Int64.toUInt64 63)).toInt64) / x2 * x2)]) (rest := [.int x4]) hx hb hml hown zw hB zM_X8_235 (zc_X8_findRank l D ca a I L54 H.size zdM_14 h) zdM_0 rfl rfl hl.1 rfl (Nat.le_of_ble_eq_true rfl) rfl rfl ⟨Nat.le_of_ble_eq_true rfl, Nat.le_of_ble_eq_true rfl⟩ dX8_drawn_79 ⟨Nat.le_of_ble_eq_true rfl, Nat.le_of_ble_eq_true rfl⟩) (fun r79 I79 L79 H locs h hB => ?_)
      refine lv_if_eq (tgt := 92) hx hb dX8_drawn_82 (by decide) (fun c82 => ?_) (fun c82 => ?_)
      · have h := h.1 c82
        exact zq_X8_drawn_92 X hA hK35 h H locs ls hB (lv_sub hl [0, 1, 2, 4] rfl)
      · have h := h.2 c82
        refine lv_aload_n hx hb dX8_drawn_85 rfl (lv_at hl 0 rfl) ?_
        refine zz_geti hx hb hown zw hB zF_X8_216 zdM_0 rfl dX8_drawn_86 ?_
        refine lv_goto (tgt := 93) hx hb dX8_drawn_89 (by decide) ?_
        refine lv_iadd hx hb dX8_drawn_93 ?_
        refine lv_topi (fun v94 ev94 => ?_)
        have h := h v94 ev94
        refine lv_istore (lv' := [(4, .int v94), (0, .ref (a 0)), (1, .int x1), (2, .long x2), (5, .int x5)]) hx hb dX8_drawn_94 hl (by decide) rfl (fun ls hl => ?_)
        obtain ⟨v96, ev96⟩ : ∃ z : Int32, z = x5 + (1 : Int32) := ⟨_, rfl⟩
        have h := h v96 ev96
        refine lv_iinc (v := v96) (lv' := [(5, .int v96), (4, .int v94), (0, .ref (a 0)), (1, .int x1), (2, .long x2)]) hx hb dX8_drawn_96 hl (k := 4) rfl (by rw [ev96]; rfl) (by decide) rfl (fun ls hl => ?_)
        refine lv_goto (tgt := 35) hx hb dX8_drawn_99 (by decide) ?_
        exact hK35 _ _ _ _ h H locs ls hB (lv_sub hl [2, 3, 4, 1, 0] rfl)
def zp_X8_drawn_35  (P : Int32 → zz_I → zz_L → Prop) (x1 : Int32) (x2 : Int64) (x4 : Int32) (x5 : Int32) (I : zz_I) (L : zz_L) : Prop := ∃ (Inv : Int32 → Int32 → zz_I → zz_L → Prop) (μ : Int32 → Int32 → zz_I → zz_L → Nat), Inv x4 x5 I L ∧ ∀ (y4 : Int32) (y5 : Int32) (I8 : zz_I) (L8 : zz_L), Inv y4 y5 I8 L8 → zp_X8_drawn_35b  (fun z4 z5 I7 L7 => Inv z4 z5 I7 L7 ∧ μ z4 z5 I7 L7 < μ y4 y5 I8 L8) P x1 x2 y4 y5 I8 L8
set_option maxHeartbeats 4000000 in
set_option maxRecDepth 100000 in
theorem zq_X8_drawn_35 {p : Program} {l : Launch} {e : Env} {s : State} {m : MethodId} {args : Array Value} {below : List Frame} {meth : Method} {c : Code} {D : va_G} {ca : Nat → ClassId} {A : Nat → Prop} {a : Nat → Nat}  {P : Int32 → zz_I → zz_L → Prop} {I : zz_I} {L : zz_L} {x1 : Int32} {x2 : Int64} {x4 : Int32} {x5 : Int32} (X : zz_X p s m meth c cX8_drawn RX8 (some .int) 6) (hA : ∀ q, s.heap.size ≤ q → A q)   (h : zp_X8_drawn_35  P x1 x2 x4 x5 I L) : zz_Go p l e ({ frames := 6, cells := 0, slots := 0, locals := 161 } : Room) s m args below meth c 0 0 (MQ below (zz_Qi D ca zz_dM A a P) args s 0 0 A) D ca zz_dM A 6 35 a [] [(0, .ref (a 0)), (1, .int x1), (2, .long x2), (4, .int x4), (5, .int x5)] I L := by
  unfold zp_X8_drawn_35 at h
  obtain ⟨Inv, μ, hv0, hs⟩ := h
  have key : ∀ (n9 : Nat) (y4 : Int32) (y5 : Int32) (I8 : zz_I) (L8 : zz_L), μ y4 y5 I8 L8 < n9 → Inv y4 y5 I8 L8 → zz_Go p l e ({ frames := 6, cells := 0, slots := 0, locals := 161 } : Room) s m args below meth c 0 0 (MQ below (zz_Qi D ca zz_dM A a P) args s 0 0 A) D ca zz_dM A 6 35 a [] [(0, .ref (a 0)), (1, .int x1), (2, .long x2), (4, .int y4), (5, .int y5)] I8 L8 := by
    intro n9
    induction n9 with
    | zero => intro y4 y5 I8 L8 hn; exact absurd hn (Nat.not_lt_zero _)
    | succ n9 ih =>
      intro y4 y5 I8 L8 hn hi
      exact zq_X8_drawn_35b (K35 := (fun z4 z5 I7 L7 => Inv z4 z5 I7 L7 ∧ μ z4 z5 I7 L7 < μ y4 y5 I8 L8)) X hA   (fun z4 z5 I7 L7 hz => ih z4 z5 I7 L7 (Nat.lt_of_lt_of_le hz.2 (Nat.le_of_lt_succ hn)) hz.1) (hs y4 y5 I8 L8 hi)
  exact key _ x4 x5 I L (Nat.lt_succ_self _) hv0
def zp_X8_drawn (x1 : Int32) (P : Int32 → zz_I → zz_L → Prop) (I : zz_I) (L : zz_L) : Prop := ∀ I2 : zz_I, I2 = zz_up I 0 0 (0 : Int32) → (zp_X8_in (x1.toInt64) (1 : Int64) (20 : Int64) (fun r11 => (¬ r11 = 0 → zp_X8_all 14 (fun r25 I25 L25 => zp_X8_drawn_35 P x1 r25 (0 : Int32) (0 : Int32) I25 L25) I2 L) ∧ (r11 = 0 → P (-2 : Int32) I2 L)) I2 L)
set_option maxHeartbeats 4000000 in
set_option maxRecDepth 100000 in
theorem zq_X8_drawn {p : Program} {l : Launch} {e : Env} {s : State} {m : MethodId} {args : Array Value} {below : List Frame} {meth : Method} {c : Code} {D : va_G} {ca : Nat → ClassId} {A : Nat → Prop} {a : Nat → Nat}  {P : Int32 → zz_I → zz_L → Prop} {I : zz_I} {L : zz_L} {x1 : Int32} (X : zz_X p s m meth c cX8_drawn RX8 (some .int) 6) (hA : ∀ q, s.heap.size ≤ q → A q)   (h : zp_X8_drawn x1 P I L) : zz_Go p l e ({ frames := 6, cells := 0, slots := 0, locals := 161 } : Room) s m args below meth c 0 0 (MQ below (zz_Qi D ca zz_dM A a P) args s 0 0 A) D ca zz_dM A 6 0 a [] [(0, .ref (a 0)), (1, .int x1)] I L := by
  obtain ⟨hx, hb, hml, hown, zw, hr, hlocks⟩ := id X
  intro H locs ls hB hl
  unfold zp_X8_drawn at h
  refine lv_aload_n hx hb dX8_drawn_0 rfl (lv_at hl 0 rfl) ?_
  refine lv_iconst (v := (0 : Int32)) hx hb dX8_drawn_1 (by decide) ?_
  refine zz_puti hx hb hown zw hB zP_X8_94 zdM_0 rfl dX8_drawn_2 (fun H locs hB => ?_)
  obtain ⟨I2, eI2⟩ : ∃ z : zz_I, z = zz_up I 0 0 (0 : Int32) := ⟨_, rfl⟩
  rw [← eI2] at hB
  have h := h I2 eI2
  refine lv_iload_n hx hb dX8_drawn_5 rfl (lv_at hl 1 rfl) ?_
  refine lv_i2l (v := x1.toInt64) hx hb dX8_drawn_6 rfl ?_
  refine lv_lconst (v := (1 : Int64)) hx hb dX8_drawn_7 (by decide) ?_
  refine lv_ldc2 (v := (20 : Int64)) hx hb hown (zz_W_use zw zk_X8_305 rfl) dX8_drawn_8 ?_
  refine zz_goip hB hA (zz_runS (As := [.long (x1.toInt64), .long (1 : Int64), .long (20 : Int64)]) (rest := []) hx hb hml hown zw hB zM_X8_101 (zc_X8_in l D ca a I2 L H.size h) rfl hl.1 rfl (Nat.le_of_ble_eq_true rfl) rfl rfl ⟨Nat.le_of_ble_eq_true rfl, Nat.le_of_ble_eq_true rfl⟩ dX8_drawn_11 ⟨Nat.le_of_ble_eq_true rfl, Nat.le_of_ble_eq_true rfl⟩) (fun r11 H locs h hB => ?_)
  refine lv_if_ne (tgt := 20) hx hb dX8_drawn_14 (by decide) (fun c14 => ?_) (fun c14 => ?_)
  · have h := h.1 c14
    refine lv_aload_n hx hb dX8_drawn_20 rfl (lv_at hl 0 rfl) ?_
    refine lv_aload_n hx hb dX8_drawn_21 rfl (lv_at hl 0 rfl) ?_
    refine zz_getr (k' := 14) hx hb hown zw hB zF_X8_50 zdM_0 rfl rfl dX8_drawn_22 ?_
    refine zz_gol hB hA (zz_runV (As := [.ref (a 14)]) (rest := []) hx hb hml hown zw hB zM_X8_231 (zc_X8_all l D ca a I2 L H.size zdM_14 h) zdM_0 rfl rfl hl.1 rfl (Nat.le_of_ble_eq_true rfl) rfl rfl ⟨Nat.le_of_ble_eq_true rfl, Nat.le_of_ble_eq_true rfl⟩ dX8_drawn_25 ⟨Nat.le_of_ble_eq_true rfl, Nat.le_of_ble_eq_true rfl⟩) (fun r25 I25 L25 H locs h hB => ?_)
    refine lv_lstore_n (lv' := [(2, .long r25), (0, .ref (a 0)), (1, .int x1)]) hx hb dX8_drawn_28 rfl hl (by decide) rfl (fun ls hl => ?_)
    refine lv_iconst (v := (0 : Int32)) hx hb dX8_drawn_29 (by decide) ?_
    refine lv_istore (lv' := [(4, .int (0 : Int32)), (2, .long r25), (0, .ref (a 0)), (1, .int x1)]) hx hb dX8_drawn_30 hl (by decide) rfl (fun ls hl => ?_)
    refine lv_iconst (v := (0 : Int32)) hx hb dX8_drawn_32 (by decide) ?_
    refine lv_istore (lv' := [(5, .int (0 : Int32)), (4, .int (0 : Int32)), (2, .long r25), (0, .ref (a 0)), (1, .int x1)]) hx hb dX8_drawn_33 hl (by decide) rfl (fun ls hl => ?_)
    exact zq_X8_drawn_35 X hA  h H locs ls hB (lv_sub hl [3, 4, 2, 1, 0] rfl)
  · have h := h.2 c14
    refine lv_bipush (v := (-2 : Int32)) hx hb dX8_drawn_17 (by decide) ?_
    exact zz_iret hx hb hr hlocks hB h dX8_drawn_19
theorem zc_X8_drawn (l : Launch) (D : va_G) (ca : Nat → ClassId) (a : Nat → Nat) (I : zz_I) (L : zz_L) (sz : Nat) {x1 : Int32} {P : Int32 → zz_I → zz_L → Prop}  (h : zp_X8_drawn x1 P I L) : Met l yX8_drawn [.code yX8_drawn cX8_drawn 6 (some .int)] ({ frames := 6, cells := 0, slots := 0, locals := 161 } : Room) (zz_Pre D ca zz_dM [.ref (a 0), .int x1] a I L sz) (zz_Qi D ca zz_dM (zz_A ca zz_dM a I L sz) a P) 0 0 (zz_A ca zz_dM a I L sz) :=
  zz_start (by decide) (Nat.le_of_ble_eq_true rfl) (fun p e s m below meth c X hsz hA => zq_X8_drawn X hA  h)
def zp_X8_factorial_4b (K4 : Int64 → Int32 → Prop) (P : Int64 → Prop) (x0 : Int32) (x1 : Int64) (x3 : Int32) (I : zz_I) (L : zz_L) : Prop := (x0 < x3 → P x1) ∧ (¬ x0 < x3 → ∀ v13 : Int64, v13 = x1 * (x3.toInt64) → (∀ v14 : Int32, v14 = x3 + (1 : Int32) → (K4 v13 v14)))
set_option maxHeartbeats 4000000 in
set_option maxRecDepth 100000 in
theorem zq_X8_factorial_4b {p : Program} {l : Launch} {e : Env} {s : State} {m : MethodId} {args : Array Value} {below : List Frame} {meth : Method} {c : Code} {D : va_G} {ca : Nat → ClassId} {A : Nat → Prop} {a : Nat → Nat} {K4 : Int64 → Int32 → Prop} {P : Int64 → Prop} {I : zz_I} {L : zz_L} {x0 : Int32} {x1 : Int64} {x3 : Int32} (X : zz_X p s m meth c cX8_factorial RX8 (some .long) 4) (hA : ∀ q, s.heap.size ≤ q → A q)  (hK4 : ∀ (y1 : Int64) (y3 : Int32), K4 y1 y3 → zz_Go p l e ({ frames := 0, cells := 0, slots := 0, locals := 0 } : Room) s m args below meth c 0 0 (MQ below (zz_Ql D ca zz_dM A a (fun r I9 L9 => P r ∧ I9 = I ∧ L9 = L)) args s 0 0 A) D ca zz_dM A 4 4 a [] [(0, .int x0), (1, .long y1), (3, .int y3)] I L) (h : zp_X8_factorial_4b K4 P x0 x1 x3 I L) : zz_Go p l e ({ frames := 0, cells := 0, slots := 0, locals := 0 } : Room) s m args below meth c 0 0 (MQ below (zz_Ql D ca zz_dM A a (fun r I9 L9 => P r ∧ I9 = I ∧ L9 = L)) args s 0 0 A) D ca zz_dM A 4 4 a [] [(0, .int x0), (1, .long x1), (3, .int x3)] I L := by
  obtain ⟨hx, hb, hml, hown, zw, hr, hlocks⟩ := id X
  intro H locs ls hB hl
  unfold zp_X8_factorial_4b at h
  refine lv_iload_n hx hb dX8_factorial_4 rfl (lv_at hl 2 rfl) ?_
  refine lv_iload_n hx hb dX8_factorial_5 rfl (lv_at hl 0 rfl) ?_
  refine lv_icmp_gt (tgt := 20) hx hb dX8_factorial_6 (by decide) (fun c6 => ?_) (fun c6 => ?_)
  · have h := h.1 c6
    refine lv_lload_n hx hb dX8_factorial_20 rfl (lv_at hl 1 rfl) ?_
    exact zz_lret hx hb hr hlocks hB ⟨h, rfl, rfl⟩ dX8_factorial_21
  · have h := h.2 c6
    refine lv_lload_n hx hb dX8_factorial_9 rfl (lv_at hl 1 rfl) ?_
    refine lv_iload_n hx hb dX8_factorial_10 rfl (lv_at hl 2 rfl) ?_
    refine lv_i2l (v := x3.toInt64) hx hb dX8_factorial_11 rfl ?_
    refine lv_lmul hx hb dX8_factorial_12 ?_
    refine lv_topl (fun v13 ev13 => ?_)
    have h := h v13 ev13
    refine lv_lstore_n (lv' := [(1, .long v13), (0, .int x0), (3, .int x3)]) hx hb dX8_factorial_13 rfl hl (by decide) rfl (fun ls hl => ?_)
    obtain ⟨v14, ev14⟩ : ∃ z : Int32, z = x3 + (1 : Int32) := ⟨_, rfl⟩
    have h := h v14 ev14
    refine lv_iinc (v := v14) (lv' := [(3, .int v14), (1, .long v13), (0, .int x0)]) hx hb dX8_factorial_14 hl (k := 2) rfl (by rw [ev14]; rfl) (by decide) rfl (fun ls hl => ?_)
    refine lv_goto (tgt := 4) hx hb dX8_factorial_17 (by decide) ?_
    exact hK4 _ _ h H locs ls hB (lv_sub hl [2, 1, 0] rfl)
def zp_X8_factorial_4  (P : Int64 → Prop) (x0 : Int32) (x1 : Int64) (x3 : Int32) (I : zz_I) (L : zz_L) : Prop := ∃ (Inv : Int64 → Int32 → Prop) (μ : Int64 → Int32 → Nat), Inv x1 x3 ∧ ∀ (y1 : Int64) (y3 : Int32), Inv y1 y3 → zp_X8_factorial_4b  (fun z1 z3 => Inv z1 z3 ∧ μ z1 z3 < μ y1 y3) P x0 y1 y3 I L
set_option maxHeartbeats 4000000 in
set_option maxRecDepth 100000 in
theorem zq_X8_factorial_4 {p : Program} {l : Launch} {e : Env} {s : State} {m : MethodId} {args : Array Value} {below : List Frame} {meth : Method} {c : Code} {D : va_G} {ca : Nat → ClassId} {A : Nat → Prop} {a : Nat → Nat}  {P : Int64 → Prop} {I : zz_I} {L : zz_L} {x0 : Int32} {x1 : Int64} {x3 : Int32} (X : zz_X p s m meth c cX8_factorial RX8 (some .long) 4) (hA : ∀ q, s.heap.size ≤ q → A q)   (h : zp_X8_factorial_4  P x0 x1 x3 I L) : zz_Go p l e ({ frames := 0, cells := 0, slots := 0, locals := 0 } : Room) s m args below meth c 0 0 (MQ below (zz_Ql D ca zz_dM A a (fun r I9 L9 => P r ∧ I9 = I ∧ L9 = L)) args s 0 0 A) D ca zz_dM A 4 4 a [] [(0, .int x0), (1, .long x1), (3, .int x3)] I L := by
  unfold zp_X8_factorial_4 at h
  obtain ⟨Inv, μ, hv0, hs⟩ := h
  have key : ∀ (n9 : Nat) (y1 : Int64) (y3 : Int32), μ y1 y3 < n9 → Inv y1 y3 → zz_Go p l e ({ frames := 0, cells := 0, slots := 0, locals := 0 } : Room) s m args below meth c 0 0 (MQ below (zz_Ql D ca zz_dM A a (fun r I9 L9 => P r ∧ I9 = I ∧ L9 = L)) args s 0 0 A) D ca zz_dM A 4 4 a [] [(0, .int x0), (1, .long y1), (3, .int y3)] I L := by
    intro n9
    induction n9 with
    | zero => intro y1 y3 hn; exact absurd hn (Nat.not_lt_zero _)
    | succ n9 ih =>
      intro y1 y3 hn hi
      exact zq_X8_factorial_4b (K4 := (fun z1 z3 => Inv z1 z3 ∧ μ z1 z3 < μ y1 y3)) X hA   (fun z1 z3 hz => ih z1 z3 (Nat.lt_of_lt_of_le hz.2 (Nat.le_of_lt_succ hn)) hz.1) (hs y1 y3 hi)
  exact key _ x1 x3 (Nat.lt_succ_self _) hv0
def zp_X8_factorial (x0 : Int32) (P : Int64 → Prop) (I : zz_I) (L : zz_L) : Prop := zp_X8_factorial_4 P x0 (1 : Int64) (2 : Int32) I L
set_option maxHeartbeats 4000000 in
set_option maxRecDepth 100000 in
theorem zq_X8_factorial {p : Program} {l : Launch} {e : Env} {s : State} {m : MethodId} {args : Array Value} {below : List Frame} {meth : Method} {c : Code} {D : va_G} {ca : Nat → ClassId} {A : Nat → Prop} {a : Nat → Nat}  {P : Int64 → Prop} {I : zz_I} {L : zz_L} {x0 : Int32} (X : zz_X p s m meth c cX8_factorial RX8 (some .long) 4) (hA : ∀ q, s.heap.size ≤ q → A q)   (h : zp_X8_factorial x0 P I L) : zz_Go p l e ({ frames := 0, cells := 0, slots := 0, locals := 0 } : Room) s m args below meth c 0 0 (MQ below (zz_Ql D ca zz_dM A a (fun r I9 L9 => P r ∧ I9 = I ∧ L9 = L)) args s 0 0 A) D ca zz_dM A 4 0 a [] [(0, .int x0)] I L := by
  obtain ⟨hx, hb, hml, hown, zw, hr, hlocks⟩ := id X
  intro H locs ls hB hl
  unfold zp_X8_factorial at h
  refine lv_lconst (v := (1 : Int64)) hx hb dX8_factorial_0 (by decide) ?_
  refine lv_lstore_n (lv' := [(1, .long (1 : Int64)), (0, .int x0)]) hx hb dX8_factorial_1 rfl hl (by decide) rfl (fun ls hl => ?_)
  refine lv_iconst (v := (2 : Int32)) hx hb dX8_factorial_2 (by decide) ?_
  refine lv_istore_n (lv' := [(3, .int (2 : Int32)), (1, .long (1 : Int64)), (0, .int x0)]) hx hb dX8_factorial_3 rfl hl (by decide) rfl (fun ls hl => ?_)
  exact zq_X8_factorial_4 X hA  h H locs ls hB (lv_sub hl [2, 1, 0] rfl)
theorem zc_X8_factorial (l : Launch) (D : va_G) (ca : Nat → ClassId) (a : Nat → Nat) (I : zz_I) (L : zz_L) (sz : Nat) {x0 : Int32} {P : Int64 → Prop}  (h : zp_X8_factorial x0 P I L) : Met l yX8_factorial [.code yX8_factorial cX8_factorial 4 (some .long)] ({ frames := 0, cells := 0, slots := 0, locals := 0 } : Room) (zz_Pre D ca zz_dM [.int x0] a I L sz) (zz_Ql D ca zz_dM (zz_A ca zz_dM a I L sz) a (fun r I9 L9 => P r ∧ I9 = I ∧ L9 = L)) 0 0 (zz_A ca zz_dM a I L sz) :=
  zz_start (by decide) (Nat.le_of_ble_eq_true rfl) (fun p e s m below meth c X hsz hA => zq_X8_factorial X hA  h)
def zp_X8_isNext (x1 : Int32) (x2 : Int32) (x3 : Int32) (P : Int32 → Prop) (I : zz_I) (L : zz_L) : Prop := ((I 0 2) ≤ (I 0 3) → P (0 : Int32)) ∧ (¬ (I 0 2) ≤ (I 0 3) → vp_in (I 0 3) 110 ∧ (zp_X8_in (((I 1 (I 0 3).toNatClampNeg) - x1).toInt64) (x2.toInt64) (x3.toInt64) (fun r27 => (r27 = 0 → P (0 : Int32)) ∧ (¬ r27 = 0 → P (1 : Int32))) I L))
set_option maxHeartbeats 4000000 in
set_option maxRecDepth 100000 in
theorem zq_X8_isNext {p : Program} {l : Launch} {e : Env} {s : State} {m : MethodId} {args : Array Value} {below : List Frame} {meth : Method} {c : Code} {D : va_G} {ca : Nat → ClassId} {A : Nat → Prop} {a : Nat → Nat}  {P : Int32 → Prop} {I : zz_I} {L : zz_L} {x1 : Int32} {x2 : Int32} {x3 : Int32} (X : zz_X p s m meth c cX8_isNext RX8 (some .boolean) 4) (hA : ∀ q, s.heap.size ≤ q → A q)   (h : zp_X8_isNext x1 x2 x3 P I L) : zz_Go p l e ({ frames := 1, cells := 0, slots := 0, locals := 25 } : Room) s m args below meth c 0 0 (MQ below (zz_Qi D ca zz_dM A a (fun r I9 L9 => P r ∧ I9 = I ∧ L9 = L)) args s 0 0 A) D ca zz_dM A 4 0 a [] [(0, .ref (a 0)), (1, .int x1), (2, .int x2), (3, .int x3)] I L := by
  obtain ⟨hx, hb, hml, hown, zw, hr, hlocks⟩ := id X
  intro H locs ls hB hl
  unfold zp_X8_isNext at h
  refine lv_aload_n hx hb dX8_isNext_0 rfl (lv_at hl 0 rfl) ?_
  refine zz_geti hx hb hown zw hB zF_X8_110 zdM_0 rfl dX8_isNext_1 ?_
  refine lv_aload_n hx hb dX8_isNext_4 rfl (lv_at hl 0 rfl) ?_
  refine zz_geti hx hb hown zw hB zF_X8_107 zdM_0 rfl dX8_isNext_5 ?_
  refine lv_icmp_ge (tgt := 37) hx hb dX8_isNext_8 (by decide) (fun c8 => ?_) (fun c8 => ?_)
  · have h := h.1 c8
    refine lv_iconst (v := (0 : Int32)) hx hb dX8_isNext_37 (by decide) ?_
    exact zz_zret hx hb hr hlocks zz_bool0 hB ⟨h, rfl, rfl⟩ dX8_isNext_38
  · have h := h.2 c8
    refine lv_aload_n hx hb dX8_isNext_11 rfl (lv_at hl 0 rfl) ?_
    refine zz_getr (k' := 1) hx hb hown zw hB zF_X8_7 zdM_0 rfl rfl dX8_isNext_12 ?_
    refine lv_aload_n hx hb dX8_isNext_15 rfl (lv_at hl 0 rfl) ?_
    refine zz_geti hx hb hown zw hB zF_X8_110 zdM_0 rfl dX8_isNext_16 ?_
    obtain ⟨hi19, h⟩ := h
    refine zz_iald hx hb hB zdM_1 hi19 dX8_isNext_19 ?_
    refine lv_iload_n hx hb dX8_isNext_20 rfl (lv_at hl 1 rfl) ?_
    refine lv_isub hx hb dX8_isNext_21 ?_
    refine lv_i2l (v := ((I 1 (I 0 3).toNatClampNeg) - x1).toInt64) hx hb dX8_isNext_22 rfl ?_
    refine lv_iload_n hx hb dX8_isNext_23 rfl (lv_at hl 2 rfl) ?_
    refine lv_i2l (v := x2.toInt64) hx hb dX8_isNext_24 rfl ?_
    refine lv_iload_n hx hb dX8_isNext_25 rfl (lv_at hl 3 rfl) ?_
    refine lv_i2l (v := x3.toInt64) hx hb dX8_isNext_26 rfl ?_
    refine zz_goip hB hA (zz_runS (As := [.long (((I 1 (I 0 3).toNatClampNeg) - x1).toInt64), .long (x2.toInt64), .long (x3.toInt64)]) (rest := []) hx hb hml hown zw hB zM_X8_101 (zc_X8_in l D ca a I L H.size h) rfl hl.1 rfl (Nat.le_of_ble_eq_true rfl) rfl rfl ⟨Nat.le_of_ble_eq_true rfl, Nat.le_of_ble_eq_true rfl⟩ dX8_isNext_27 ⟨Nat.le_of_ble_eq_true rfl, Nat.le_of_ble_eq_true rfl⟩) (fun r27 H locs h hB => ?_)
    refine lv_if_eq (tgt := 37) hx hb dX8_isNext_30 (by decide) (fun c30 => ?_) (fun c30 => ?_)
    · have h := h.1 c30
      refine lv_iconst (v := (0 : Int32)) hx hb dX8_isNext_37 (by decide) ?_
      exact zz_zret hx hb hr hlocks zz_bool0 hB ⟨h, rfl, rfl⟩ dX8_isNext_38
    · have h := h.2 c30
      refine lv_iconst (v := (1 : Int32)) hx hb dX8_isNext_33 (by decide) ?_
      refine lv_goto (tgt := 38) hx hb dX8_isNext_34 (by decide) ?_
      exact zz_zret hx hb hr hlocks zz_bool1 hB ⟨h, rfl, rfl⟩ dX8_isNext_38
theorem zc_X8_isNext (l : Launch) (D : va_G) (ca : Nat → ClassId) (a : Nat → Nat) (I : zz_I) (L : zz_L) (sz : Nat) {x1 : Int32} {x2 : Int32} {x3 : Int32} {P : Int32 → Prop}  (h : zp_X8_isNext x1 x2 x3 P I L) : Met l yX8_isNext [.code yX8_isNext cX8_isNext 4 (some .boolean)] ({ frames := 1, cells := 0, slots := 0, locals := 25 } : Room) (zz_Pre D ca zz_dM [.ref (a 0), .int x1, .int x2, .int x3] a I L sz) (zz_Qi D ca zz_dM (zz_A ca zz_dM a I L sz) a (fun r I9 L9 => P r ∧ I9 = I ∧ L9 = L)) 0 0 (zz_A ca zz_dM a I L sz) :=
  zz_start (by decide) (Nat.le_of_ble_eq_true rfl) (fun p e s m below meth c X hsz hA => zq_X8_isNext X hA  h)
def zp_X8_readWord_207 (K118 : Int32 → zz_I → zz_L → Prop) (P : Int32 → zz_I → zz_L → Prop) (x1 : Int32) (x2 : Int32) (I : zz_I) (L : zz_L) : Prop := ∀ I214 : zz_I, I214 = zz_up I 0 3 ((I 0 3) + (1 : Int32)) → (∀ v217 : Int32, v217 = x2 + (1 : Int32) → (K118 v217 I214 L))
set_option maxHeartbeats 4000000 in
set_option maxRecDepth 100000 in
theorem zq_X8_readWord_207 {p : Program} {l : Launch} {e : Env} {s : State} {m : MethodId} {args : Array Value} {below : List Frame} {meth : Method} {c : Code} {D : va_G} {ca : Nat → ClassId} {A : Nat → Prop} {a : Nat → Nat} {K118 : Int32 → zz_I → zz_L → Prop} {P : Int32 → zz_I → zz_L → Prop} {I : zz_I} {L : zz_L} {x1 : Int32} {x2 : Int32} (X : zz_X p s m meth c cX8_readWord RX8 (some .boolean) 4) (hA : ∀ q, s.heap.size ≤ q → A q)  (hK118 : ∀ (y2 : Int32) (I8 : zz_I) (L8 : zz_L), K118 y2 I8 L8 → zz_Go p l e ({ frames := 2, cells := 0, slots := 0, locals := 48 } : Room) s m args below meth c 0 0 (MQ below (zz_Qi D ca zz_dM A a P) args s 0 0 A) D ca zz_dM A 4 118 a [] [(0, .ref (a 0)), (1, .int x1), (2, .int y2)] I8 L8) (h : zp_X8_readWord_207 K118 P x1 x2 I L) : zz_Go p l e ({ frames := 2, cells := 0, slots := 0, locals := 48 } : Room) s m args below meth c 0 0 (MQ below (zz_Qi D ca zz_dM A a P) args s 0 0 A) D ca zz_dM A 4 207 a [] [(0, .ref (a 0)), (1, .int x1), (2, .int x2)] I L := by
  obtain ⟨hx, hb, hml, hown, zw, hr, hlocks⟩ := id X
  intro H locs ls hB hl
  unfold zp_X8_readWord_207 at h
  refine lv_aload_n hx hb dX8_readWord_207 rfl (lv_at hl 0 rfl) ?_
  refine lv_dup hx hb dX8_readWord_208 rfl ?_
  refine zz_geti hx hb hown zw hB zF_X8_110 zdM_0 rfl dX8_readWord_209 ?_
  refine lv_iconst (v := (1 : Int32)) hx hb dX8_readWord_212 (by decide) ?_
  refine lv_iadd hx hb dX8_readWord_213 ?_
  refine zz_puti hx hb hown zw hB zP_X8_110 zdM_0 rfl dX8_readWord_214 (fun H locs hB => ?_)
  obtain ⟨I214, eI214⟩ : ∃ z : zz_I, z = zz_up I 0 3 ((I 0 3) + (1 : Int32)) := ⟨_, rfl⟩
  rw [← eI214] at hB
  have h := h I214 eI214
  obtain ⟨v217, ev217⟩ : ∃ z : Int32, z = x2 + (1 : Int32) := ⟨_, rfl⟩
  have h := h v217 ev217
  refine lv_iinc (v := v217) (lv' := [(2, .int v217), (0, .ref (a 0)), (1, .int x1)]) hx hb dX8_readWord_217 hl (k := 2) rfl (by rw [ev217]; rfl) (by decide) rfl (fun ls hl => ?_)
  refine lv_goto (tgt := 118) hx hb dX8_readWord_220 (by decide) ?_
  exact hK118 _ _ _ h H locs ls hB (lv_sub hl [1, 2, 0] rfl)
def zp_X8_readWord_147 (K118 : Int32 → zz_I → zz_L → Prop) (P : Int32 → zz_I → zz_L → Prop) (x1 : Int32) (x2 : Int32) (s0 : Int32) (s1 : Int32) (s2 : Int32) (I : zz_I) (L : zz_L) : Prop := zp_X8_isNext s2 s1 s0 (fun r147 => (¬ r147 = 0 → vp_in (I 0 3) 110 ∧ (∀ v167 : Int32, v167 = (I 1 (I 0 3).toNatClampNeg) - (48 : Int32) → ((¬ x2 = 0 → (¬ x2 = (1 : Int32) → vp_in ((11 : Int32) + x1) 43 ∧ (∀ I206 : zz_I, I206 = zz_up I 13 ((11 : Int32) + x1).toNatClampNeg v167 → (zp_X8_readWord_207 K118 P x1 x2 I206 L))) ∧ (x2 = (1 : Int32) → vp_in x1 8 ∧ (∀ I193 : zz_I, I193 = zz_up I 11 x1.toNatClampNeg v167 → (zp_X8_readWord_207 K118 P x1 x2 I193 L)))) ∧ (x2 = 0 → vp_in x1 8 ∧ (∀ I178 : zz_I, I178 = zz_up I 10 x1.toNatClampNeg v167 → (zp_X8_readWord_207 K118 P x1 x2 I178 L)))))) ∧ (r147 = 0 → P (0 : Int32) I L)) I L
set_option maxHeartbeats 4000000 in
set_option maxRecDepth 100000 in
theorem zq_X8_readWord_147 {p : Program} {l : Launch} {e : Env} {s : State} {m : MethodId} {args : Array Value} {below : List Frame} {meth : Method} {c : Code} {D : va_G} {ca : Nat → ClassId} {A : Nat → Prop} {a : Nat → Nat} {K118 : Int32 → zz_I → zz_L → Prop} {P : Int32 → zz_I → zz_L → Prop} {I : zz_I} {L : zz_L} {x1 : Int32} {x2 : Int32} {s0 : Int32} {s1 : Int32} {s2 : Int32} (X : zz_X p s m meth c cX8_readWord RX8 (some .boolean) 4) (hA : ∀ q, s.heap.size ≤ q → A q)  (hK118 : ∀ (y2 : Int32) (I8 : zz_I) (L8 : zz_L), K118 y2 I8 L8 → zz_Go p l e ({ frames := 2, cells := 0, slots := 0, locals := 48 } : Room) s m args below meth c 0 0 (MQ below (zz_Qi D ca zz_dM A a P) args s 0 0 A) D ca zz_dM A 4 118 a [] [(0, .ref (a 0)), (1, .int x1), (2, .int y2)] I8 L8) (h : zp_X8_readWord_147 K118 P x1 x2 s0 s1 s2 I L) : zz_Go p l e ({ frames := 2, cells := 0, slots := 0, locals := 48 } : Room) s m args below meth c 0 0 (MQ below (zz_Qi D ca zz_dM A a P) args s 0 0 A) D ca zz_dM A 4 147 a [.int s0, .int s1, .int s2, .ref (a 0)] [(0, .ref (a 0)), (1, .int x1), (2, .int x2)] I L := by
  obtain ⟨hx, hb, hml, hown, zw, hr, hlocks⟩ := id X
  intro H locs ls hB hl
  unfold zp_X8_readWord_147 at h
  refine zz_goip hB hA (zz_runV (As := [.int s2, .int s1, .int s0]) (rest := []) hx hb hml hown zw hB zM_X8_116 (zc_X8_isNext l D ca a I L H.size h) zdM_0 rfl rfl hl.1 rfl (Nat.le_of_ble_eq_true rfl) rfl rfl ⟨Nat.le_of_ble_eq_true rfl, Nat.le_of_ble_eq_true rfl⟩ dX8_readWord_147 ⟨Nat.le_of_ble_eq_true rfl, Nat.le_of_ble_eq_true rfl⟩) (fun r147 H locs h hB => ?_)
  refine lv_if_ne (tgt := 155) hx hb dX8_readWord_150 (by decide) (fun c150 => ?_) (fun c150 => ?_)
  · have h := h.1 c150
    refine lv_aload_n hx hb dX8_readWord_155 rfl (lv_at hl 0 rfl) ?_
    refine zz_getr (k' := 1) hx hb hown zw hB zF_X8_7 zdM_0 rfl rfl dX8_readWord_156 ?_
    refine lv_aload_n hx hb dX8_readWord_159 rfl (lv_at hl 0 rfl) ?_
    refine zz_geti hx hb hown zw hB zF_X8_110 zdM_0 rfl dX8_readWord_160 ?_
    obtain ⟨hi163, h⟩ := h
    refine zz_iald hx hb hB zdM_1 hi163 dX8_readWord_163 ?_
    refine lv_bipush (v := (48 : Int32)) hx hb dX8_readWord_164 (by decide) ?_
    refine lv_isub hx hb dX8_readWord_166 ?_
    refine lv_topi (fun v167 ev167 => ?_)
    have h := h v167 ev167
    refine lv_istore_n (lv' := [(3, .int v167), (0, .ref (a 0)), (1, .int x1), (2, .int x2)]) hx hb dX8_readWord_167 rfl hl (by decide) rfl (fun ls hl => ?_)
    refine lv_iload_n hx hb dX8_readWord_168 rfl (lv_at hl 3 rfl) ?_
    refine lv_if_ne (tgt := 182) hx hb dX8_readWord_169 (by decide) (fun c169 => ?_) (fun c169 => ?_)
    · have h := h.1 c169
      refine lv_iload_n hx hb dX8_readWord_182 rfl (lv_at hl 3 rfl) ?_
      refine lv_iconst (v := (1 : Int32)) hx hb dX8_readWord_183 (by decide) ?_
      refine lv_icmp_ne (tgt := 197) hx hb dX8_readWord_184 (by decide) (fun c184 => ?_) (fun c184 => ?_)
      · have h := h.1 c184
        refine lv_aload_n hx hb dX8_readWord_197 rfl (lv_at hl 1 rfl) ?_
        refine zz_getr (k' := 13) hx hb hown zw hB zF_X8_47 zdM_0 rfl rfl dX8_readWord_198 ?_
        refine lv_bipush (v := (11 : Int32)) hx hb dX8_readWord_201 (by decide) ?_
        refine lv_iload_n hx hb dX8_readWord_203 rfl (lv_at hl 2 rfl) ?_
        refine lv_iadd hx hb dX8_readWord_204 ?_
        refine lv_iload_n hx hb dX8_readWord_205 rfl (lv_at hl 0 rfl) ?_
        obtain ⟨hi206, h⟩ := h
        refine zz_iast hx hb hB zdM_13 hi206 dX8_readWord_206 (fun H locs hB => ?_)
        obtain ⟨I206, eI206⟩ : ∃ z : zz_I, z = zz_up I 13 ((11 : Int32) + x1).toNatClampNeg v167 := ⟨_, rfl⟩
        rw [← eI206] at hB
        have h := h I206 eI206
        exact zq_X8_readWord_207 X hA hK118 h H locs ls hB (lv_sub hl [1, 2, 3] rfl)
      · have h := h.2 c184
        refine lv_aload_n hx hb dX8_readWord_187 rfl (lv_at hl 1 rfl) ?_
        refine zz_getr (k' := 11) hx hb hown zw hB zF_X8_40 zdM_0 rfl rfl dX8_readWord_188 ?_
        refine lv_iload_n hx hb dX8_readWord_191 rfl (lv_at hl 2 rfl) ?_
        refine lv_iload_n hx hb dX8_readWord_192 rfl (lv_at hl 0 rfl) ?_
        obtain ⟨hi193, h⟩ := h
        refine zz_iast hx hb hB zdM_11 hi193 dX8_readWord_193 (fun H locs hB => ?_)
        obtain ⟨I193, eI193⟩ : ∃ z : zz_I, z = zz_up I 11 x1.toNatClampNeg v167 := ⟨_, rfl⟩
        rw [← eI193] at hB
        have h := h I193 eI193
        refine lv_goto (tgt := 207) hx hb dX8_readWord_194 (by decide) ?_
        exact zq_X8_readWord_207 X hA hK118 h H locs ls hB (lv_sub hl [1, 2, 3] rfl)
    · have h := h.2 c169
      refine lv_aload_n hx hb dX8_readWord_172 rfl (lv_at hl 1 rfl) ?_
      refine zz_getr (k' := 10) hx hb hown zw hB zF_X8_37 zdM_0 rfl rfl dX8_readWord_173 ?_
      refine lv_iload_n hx hb dX8_readWord_176 rfl (lv_at hl 2 rfl) ?_
      refine lv_iload_n hx hb dX8_readWord_177 rfl (lv_at hl 0 rfl) ?_
      obtain ⟨hi178, h⟩ := h
      refine zz_iast hx hb hB zdM_10 hi178 dX8_readWord_178 (fun H locs hB => ?_)
      obtain ⟨I178, eI178⟩ : ∃ z : zz_I, z = zz_up I 10 x1.toNatClampNeg v167 := ⟨_, rfl⟩
      rw [← eI178] at hB
      have h := h I178 eI178
      refine lv_goto (tgt := 207) hx hb dX8_readWord_179 (by decide) ?_
      exact zq_X8_readWord_207 X hA hK118 h H locs ls hB (lv_sub hl [1, 2, 3] rfl)
  · have h := h.2 c150
    refine lv_iconst (v := (0 : Int32)) hx hb dX8_readWord_153 (by decide) ?_
    exact zz_zret hx hb hr hlocks zz_bool0 hB h dX8_readWord_154
def zp_X8_readWord_136 (K118 : Int32 → zz_I → zz_L → Prop) (P : Int32 → zz_I → zz_L → Prop) (x1 : Int32) (x2 : Int32) (s0 : Int32) (s1 : Int32) (I : zz_I) (L : zz_L) : Prop := (¬ x2 = (2 : Int32) → zp_X8_readWord_147 K118 P x1 x2 (2 : Int32) s0 s1 I L) ∧ (x2 = (2 : Int32) → zp_X8_readWord_147 K118 P x1 x2 (9 : Int32) s0 s1 I L)
set_option maxHeartbeats 4000000 in
set_option maxRecDepth 100000 in
theorem zq_X8_readWord_136 {p : Program} {l : Launch} {e : Env} {s : State} {m : MethodId} {args : Array Value} {below : List Frame} {meth : Method} {c : Code} {D : va_G} {ca : Nat → ClassId} {A : Nat → Prop} {a : Nat → Nat} {K118 : Int32 → zz_I → zz_L → Prop} {P : Int32 → zz_I → zz_L → Prop} {I : zz_I} {L : zz_L} {x1 : Int32} {x2 : Int32} {s0 : Int32} {s1 : Int32} (X : zz_X p s m meth c cX8_readWord RX8 (some .boolean) 4) (hA : ∀ q, s.heap.size ≤ q → A q)  (hK118 : ∀ (y2 : Int32) (I8 : zz_I) (L8 : zz_L), K118 y2 I8 L8 → zz_Go p l e ({ frames := 2, cells := 0, slots := 0, locals := 48 } : Room) s m args below meth c 0 0 (MQ below (zz_Qi D ca zz_dM A a P) args s 0 0 A) D ca zz_dM A 4 118 a [] [(0, .ref (a 0)), (1, .int x1), (2, .int y2)] I8 L8) (h : zp_X8_readWord_136 K118 P x1 x2 s0 s1 I L) : zz_Go p l e ({ frames := 2, cells := 0, slots := 0, locals := 48 } : Room) s m args below meth c 0 0 (MQ below (zz_Qi D ca zz_dM A a P) args s 0 0 A) D ca zz_dM A 4 136 a [.int s0, .int s1, .ref (a 0)] [(0, .ref (a 0)), (1, .int x1), (2, .int x2)] I L := by
  obtain ⟨hx, hb, hml, hown, zw, hr, hlocks⟩ := id X
  intro H locs ls hB hl
  unfold zp_X8_readWord_136 at h
  refine lv_iload_n hx hb dX8_readWord_136 rfl (lv_at hl 2 rfl) ?_
  refine lv_iconst (v := (2 : Int32)) hx hb dX8_readWord_137 (by decide) ?_
  refine lv_icmp_ne (tgt := 146) hx hb dX8_readWord_138 (by decide) (fun c138 => ?_) (fun c138 => ?_)
  · have h := h.1 c138
    refine lv_iconst (v := (2 : Int32)) hx hb dX8_readWord_146 (by decide) ?_
    exact zq_X8_readWord_147 X hA hK118 h H locs ls hB (lv_sub hl [0, 1, 2] rfl)
  · have h := h.2 c138
    refine lv_bipush (v := (9 : Int32)) hx hb dX8_readWord_141 (by decide) ?_
    refine lv_goto (tgt := 147) hx hb dX8_readWord_143 (by decide) ?_
    exact zq_X8_readWord_147 X hA hK118 h H locs ls hB (lv_sub hl [0, 1, 2] rfl)
def zp_X8_readWord_118b (K118 : Int32 → zz_I → zz_L → Prop) (P : Int32 → zz_I → zz_L → Prop) (x1 : Int32) (x2 : Int32) (I : zz_I) (L : zz_L) : Prop := ((3 : Int32) ≤ x2 → ∀ I230 : zz_I, I230 = zz_up I 0 11 ((I 0 11) + (1 : Int32)) → (P (1 : Int32) I230 L)) ∧ (¬ (3 : Int32) ≤ x2 → (¬ x2 = (2 : Int32) → zp_X8_readWord_136 K118 P x1 x2 (0 : Int32) (48 : Int32) I L) ∧ (x2 = (2 : Int32) → zp_X8_readWord_136 K118 P x1 x2 (1 : Int32) (48 : Int32) I L))
set_option maxHeartbeats 4000000 in
set_option maxRecDepth 100000 in
theorem zq_X8_readWord_118b {p : Program} {l : Launch} {e : Env} {s : State} {m : MethodId} {args : Array Value} {below : List Frame} {meth : Method} {c : Code} {D : va_G} {ca : Nat → ClassId} {A : Nat → Prop} {a : Nat → Nat} {K118 : Int32 → zz_I → zz_L → Prop} {P : Int32 → zz_I → zz_L → Prop} {I : zz_I} {L : zz_L} {x1 : Int32} {x2 : Int32} (X : zz_X p s m meth c cX8_readWord RX8 (some .boolean) 4) (hA : ∀ q, s.heap.size ≤ q → A q)  (hK118 : ∀ (y2 : Int32) (I8 : zz_I) (L8 : zz_L), K118 y2 I8 L8 → zz_Go p l e ({ frames := 2, cells := 0, slots := 0, locals := 48 } : Room) s m args below meth c 0 0 (MQ below (zz_Qi D ca zz_dM A a P) args s 0 0 A) D ca zz_dM A 4 118 a [] [(0, .ref (a 0)), (1, .int x1), (2, .int y2)] I8 L8) (h : zp_X8_readWord_118b K118 P x1 x2 I L) : zz_Go p l e ({ frames := 2, cells := 0, slots := 0, locals := 48 } : Room) s m args below meth c 0 0 (MQ below (zz_Qi D ca zz_dM A a P) args s 0 0 A) D ca zz_dM A 4 118 a [] [(0, .ref (a 0)), (1, .int x1), (2, .int x2)] I L := by
  obtain ⟨hx, hb, hml, hown, zw, hr, hlocks⟩ := id X
  intro H locs ls hB hl
  unfold zp_X8_readWord_118b at h
  refine lv_iload_n hx hb dX8_readWord_118 rfl (lv_at hl 2 rfl) ?_
  refine lv_iconst (v := (3 : Int32)) hx hb dX8_readWord_119 (by decide) ?_
  refine lv_icmp_ge (tgt := 223) hx hb dX8_readWord_120 (by decide) (fun c120 => ?_) (fun c120 => ?_)
  · have h := h.1 c120
    refine lv_aload_n hx hb dX8_readWord_223 rfl (lv_at hl 0 rfl) ?_
    refine lv_dup hx hb dX8_readWord_224 rfl ?_
    refine zz_geti hx hb hown zw hB zF_X8_113 zdM_0 rfl dX8_readWord_225 ?_
    refine lv_iconst (v := (1 : Int32)) hx hb dX8_readWord_228 (by decide) ?_
    refine lv_iadd hx hb dX8_readWord_229 ?_
    refine zz_puti hx hb hown zw hB zP_X8_113 zdM_0 rfl dX8_readWord_230 (fun H locs hB => ?_)
    obtain ⟨I230, eI230⟩ : ∃ z : zz_I, z = zz_up I 0 11 ((I 0 11) + (1 : Int32)) := ⟨_, rfl⟩
    rw [← eI230] at hB
    have h := h I230 eI230
    refine lv_iconst (v := (1 : Int32)) hx hb dX8_readWord_233 (by decide) ?_
    exact zz_zret hx hb hr hlocks zz_bool1 hB h dX8_readWord_234
  · have h := h.2 c120
    refine lv_aload_n hx hb dX8_readWord_123 rfl (lv_at hl 0 rfl) ?_
    refine lv_bipush (v := (48 : Int32)) hx hb dX8_readWord_124 (by decide) ?_
    refine lv_iload_n hx hb dX8_readWord_126 rfl (lv_at hl 2 rfl) ?_
    refine lv_iconst (v := (2 : Int32)) hx hb dX8_readWord_127 (by decide) ?_
    refine lv_icmp_ne (tgt := 135) hx hb dX8_readWord_128 (by decide) (fun c128 => ?_) (fun c128 => ?_)
    · have h := h.1 c128
      refine lv_iconst (v := (0 : Int32)) hx hb dX8_readWord_135 (by decide) ?_
      exact zq_X8_readWord_136 X hA hK118 h H locs ls hB (lv_sub hl [0, 1, 2] rfl)
    · have h := h.2 c128
      refine lv_iconst (v := (1 : Int32)) hx hb dX8_readWord_131 (by decide) ?_
      refine lv_goto (tgt := 136) hx hb dX8_readWord_132 (by decide) ?_
      exact zq_X8_readWord_136 X hA hK118 h H locs ls hB (lv_sub hl [0, 1, 2] rfl)
def zp_X8_readWord_118  (P : Int32 → zz_I → zz_L → Prop) (x1 : Int32) (x2 : Int32) (I : zz_I) (L : zz_L) : Prop := ∃ (Inv : Int32 → zz_I → zz_L → Prop) (μ : Int32 → zz_I → zz_L → Nat), Inv x2 I L ∧ ∀ (y2 : Int32) (I8 : zz_I) (L8 : zz_L), Inv y2 I8 L8 → zp_X8_readWord_118b  (fun z2 I7 L7 => Inv z2 I7 L7 ∧ μ z2 I7 L7 < μ y2 I8 L8) P x1 y2 I8 L8
set_option maxHeartbeats 4000000 in
set_option maxRecDepth 100000 in
theorem zq_X8_readWord_118 {p : Program} {l : Launch} {e : Env} {s : State} {m : MethodId} {args : Array Value} {below : List Frame} {meth : Method} {c : Code} {D : va_G} {ca : Nat → ClassId} {A : Nat → Prop} {a : Nat → Nat}  {P : Int32 → zz_I → zz_L → Prop} {I : zz_I} {L : zz_L} {x1 : Int32} {x2 : Int32} (X : zz_X p s m meth c cX8_readWord RX8 (some .boolean) 4) (hA : ∀ q, s.heap.size ≤ q → A q)   (h : zp_X8_readWord_118  P x1 x2 I L) : zz_Go p l e ({ frames := 2, cells := 0, slots := 0, locals := 48 } : Room) s m args below meth c 0 0 (MQ below (zz_Qi D ca zz_dM A a P) args s 0 0 A) D ca zz_dM A 4 118 a [] [(0, .ref (a 0)), (1, .int x1), (2, .int x2)] I L := by
  unfold zp_X8_readWord_118 at h
  obtain ⟨Inv, μ, hv0, hs⟩ := h
  have key : ∀ (n9 : Nat) (y2 : Int32) (I8 : zz_I) (L8 : zz_L), μ y2 I8 L8 < n9 → Inv y2 I8 L8 → zz_Go p l e ({ frames := 2, cells := 0, slots := 0, locals := 48 } : Room) s m args below meth c 0 0 (MQ below (zz_Qi D ca zz_dM A a P) args s 0 0 A) D ca zz_dM A 4 118 a [] [(0, .ref (a 0)), (1, .int x1), (2, .int y2)] I8 L8 := by
    intro n9
    induction n9 with
    | zero => intro y2 I8 L8 hn; exact absurd hn (Nat.not_lt_zero _)
    | succ n9 ih =>
      intro y2 I8 L8 hn hi
      exact zq_X8_readWord_118b (K118 := (fun z2 I7 L7 => Inv z2 I7 L7 ∧ μ z2 I7 L7 < μ y2 I8 L8)) X hA   (fun z2 I7 L7 hz => ih z2 I7 L7 (Nat.lt_of_lt_of_le hz.2 (Nat.le_of_lt_succ hn)) hz.1) (hs y2 I8 L8 hi)
  exact key _ x2 I L (Nat.lt_succ_self _) hv0
def zp_X8_readWord_104  (P : Int32 → zz_I → zz_L → Prop) (x1 : Int32) (I : zz_I) (L : zz_L) : Prop := vp_in x1 8 ∧ (((2 : Int32) ≤ (I 8 x1.toNatClampNeg) → zp_X8_readWord_118 P x1 (0 : Int32) I L) ∧ (¬ (2 : Int32) ≤ (I 8 x1.toNatClampNeg) → P (0 : Int32) I L))
set_option maxHeartbeats 4000000 in
set_option maxRecDepth 100000 in
theorem zq_X8_readWord_104 {p : Program} {l : Launch} {e : Env} {s : State} {m : MethodId} {args : Array Value} {below : List Frame} {meth : Method} {c : Code} {D : va_G} {ca : Nat → ClassId} {A : Nat → Prop} {a : Nat → Nat}  {P : Int32 → zz_I → zz_L → Prop} {I : zz_I} {L : zz_L} {x1 : Int32} (X : zz_X p s m meth c cX8_readWord RX8 (some .boolean) 4) (hA : ∀ q, s.heap.size ≤ q → A q)   (h : zp_X8_readWord_104  P x1 I L) : zz_Go p l e ({ frames := 2, cells := 0, slots := 0, locals := 48 } : Room) s m args below meth c 0 0 (MQ below (zz_Qi D ca zz_dM A a P) args s 0 0 A) D ca zz_dM A 4 104 a [] [(0, .ref (a 0)), (1, .int x1)] I L := by
  obtain ⟨hx, hb, hml, hown, zw, hr, hlocks⟩ := id X
  intro H locs ls hB hl
  unfold zp_X8_readWord_104 at h
  refine lv_aload_n hx hb dX8_readWord_104 rfl (lv_at hl 0 rfl) ?_
  refine zz_getr (k' := 8) hx hb hown zw hB zF_X8_31 zdM_0 rfl rfl dX8_readWord_105 ?_
  refine lv_iload_n hx hb dX8_readWord_108 rfl (lv_at hl 1 rfl) ?_
  obtain ⟨hi109, h⟩ := h
  refine zz_iald hx hb hB zdM_8 hi109 dX8_readWord_109 ?_
  refine lv_iconst (v := (2 : Int32)) hx hb dX8_readWord_110 (by decide) ?_
  refine lv_icmp_ge (tgt := 116) hx hb dX8_readWord_111 (by decide) (fun c111 => ?_) (fun c111 => ?_)
  · have h := h.1 c111
    refine lv_iconst (v := (0 : Int32)) hx hb dX8_readWord_116 (by decide) ?_
    refine lv_istore_n (lv' := [(2, .int (0 : Int32)), (0, .ref (a 0)), (1, .int x1)]) hx hb dX8_readWord_117 rfl hl (by decide) rfl (fun ls hl => ?_)
    exact zq_X8_readWord_118 X hA  h H locs ls hB (lv_sub hl [1, 2, 0] rfl)
  · have h := h.2 c111
    refine lv_iconst (v := (0 : Int32)) hx hb dX8_readWord_114 (by decide) ?_
    exact zz_zret hx hb hr hlocks zz_bool0 hB h dX8_readWord_115
def zp_X8_readWord_33b (K33 : zz_I → zz_L → Prop) (P : Int32 → zz_I → zz_L → Prop) (x1 : Int32) (I : zz_I) (L : zz_L) : Prop := vp_in x1 8 ∧ (((5 : Int32) ≤ (I 8 x1.toNatClampNeg) → zp_X8_readWord_104 P x1 I L) ∧ (¬ (5 : Int32) ≤ (I 8 x1.toNatClampNeg) → zp_X8_isNext (97 : Int32) (0 : Int32) (5 : Int32) (fun r48 => (r48 = 0 → zp_X8_readWord_104 P x1 I L) ∧ (¬ r48 = 0 → vp_in x1 8 ∧ (vp_in (I 0 3) 110 ∧ (vp_in (((5 : Int32) * x1) + (I 8 x1.toNatClampNeg)) 40 ∧ (∀ I80 : zz_I, I80 = zz_up I 9 (((5 : Int32) * x1) + (I 8 x1.toNatClampNeg)).toNatClampNeg ((I 1 (I 0 3).toNatClampNeg) - (97 : Int32)) → (vp_in x1 8 ∧ (vp_in x1 8 ∧ (∀ I90 : zz_I, I90 = zz_up I80 8 x1.toNatClampNeg ((I80 8 x1.toNatClampNeg) + (1 : Int32)) → (∀ I98 : zz_I, I98 = zz_up I90 0 3 ((I90 0 3) + (1 : Int32)) → (K33 I98 L)))))))))) I L))
set_option maxHeartbeats 4000000 in
set_option maxRecDepth 100000 in
theorem zq_X8_readWord_33b {p : Program} {l : Launch} {e : Env} {s : State} {m : MethodId} {args : Array Value} {below : List Frame} {meth : Method} {c : Code} {D : va_G} {ca : Nat → ClassId} {A : Nat → Prop} {a : Nat → Nat} {K33 : zz_I → zz_L → Prop} {P : Int32 → zz_I → zz_L → Prop} {I : zz_I} {L : zz_L} {x1 : Int32} (X : zz_X p s m meth c cX8_readWord RX8 (some .boolean) 4) (hA : ∀ q, s.heap.size ≤ q → A q)  (hK33 : ∀  (I8 : zz_I) (L8 : zz_L), K33 I8 L8 → zz_Go p l e ({ frames := 2, cells := 0, slots := 0, locals := 48 } : Room) s m args below meth c 0 0 (MQ below (zz_Qi D ca zz_dM A a P) args s 0 0 A) D ca zz_dM A 4 33 a [] [(0, .ref (a 0)), (1, .int x1)] I8 L8) (h : zp_X8_readWord_33b K33 P x1 I L) : zz_Go p l e ({ frames := 2, cells := 0, slots := 0, locals := 48 } : Room) s m args below meth c 0 0 (MQ below (zz_Qi D ca zz_dM A a P) args s 0 0 A) D ca zz_dM A 4 33 a [] [(0, .ref (a 0)), (1, .int x1)] I L := by
  obtain ⟨hx, hb, hml, hown, zw, hr, hlocks⟩ := id X
  intro H locs ls hB hl
  unfold zp_X8_readWord_33b at h
  refine lv_aload_n hx hb dX8_readWord_33 rfl (lv_at hl 0 rfl) ?_
  refine zz_getr (k' := 8) hx hb hown zw hB zF_X8_31 zdM_0 rfl rfl dX8_readWord_34 ?_
  refine lv_iload_n hx hb dX8_readWord_37 rfl (lv_at hl 1 rfl) ?_
  obtain ⟨hi38, h⟩ := h
  refine zz_iald hx hb hB zdM_8 hi38 dX8_readWord_38 ?_
  refine lv_iconst (v := (5 : Int32)) hx hb dX8_readWord_39 (by decide) ?_
  refine lv_icmp_ge (tgt := 104) hx hb dX8_readWord_40 (by decide) (fun c40 => ?_) (fun c40 => ?_)
  · have h := h.1 c40
    exact zq_X8_readWord_104 X hA  h H locs ls hB (lv_sub hl [0, 1] rfl)
  · have h := h.2 c40
    refine lv_aload_n hx hb dX8_readWord_43 rfl (lv_at hl 0 rfl) ?_
    refine lv_bipush (v := (97 : Int32)) hx hb dX8_readWord_44 (by decide) ?_
    refine lv_iconst (v := (0 : Int32)) hx hb dX8_readWord_46 (by decide) ?_
    refine lv_iconst (v := (5 : Int32)) hx hb dX8_readWord_47 (by decide) ?_
    refine zz_goip hB hA (zz_runV (As := [.int (97 : Int32), .int (0 : Int32), .int (5 : Int32)]) (rest := []) hx hb hml hown zw hB zM_X8_116 (zc_X8_isNext l D ca a I L H.size h) zdM_0 rfl rfl hl.1 rfl (Nat.le_of_ble_eq_true rfl) rfl rfl ⟨Nat.le_of_ble_eq_true rfl, Nat.le_of_ble_eq_true rfl⟩ dX8_readWord_48 ⟨Nat.le_of_ble_eq_true rfl, Nat.le_of_ble_eq_true rfl⟩) (fun r48 H locs h hB => ?_)
    refine lv_if_eq (tgt := 104) hx hb dX8_readWord_51 (by decide) (fun c51 => ?_) (fun c51 => ?_)
    · have h := h.1 c51
      exact zq_X8_readWord_104 X hA  h H locs ls hB (lv_sub hl [0, 1] rfl)
    · have h := h.2 c51
      refine lv_aload_n hx hb dX8_readWord_54 rfl (lv_at hl 0 rfl) ?_
      refine zz_getr (k' := 9) hx hb hown zw hB zF_X8_34 zdM_0 rfl rfl dX8_readWord_55 ?_
      refine lv_iconst (v := (5 : Int32)) hx hb dX8_readWord_58 (by decide) ?_
      refine lv_iload_n hx hb dX8_readWord_59 rfl (lv_at hl 1 rfl) ?_
      refine lv_imul hx hb dX8_readWord_60 ?_
      refine lv_aload_n hx hb dX8_readWord_61 rfl (lv_at hl 0 rfl) ?_
      refine zz_getr (k' := 8) hx hb hown zw hB zF_X8_31 zdM_0 rfl rfl dX8_readWord_62 ?_
      refine lv_iload_n hx hb dX8_readWord_65 rfl (lv_at hl 1 rfl) ?_
      obtain ⟨hi66, h⟩ := h
      refine zz_iald hx hb hB zdM_8 hi66 dX8_readWord_66 ?_
      refine lv_iadd hx hb dX8_readWord_67 ?_
      refine lv_aload_n hx hb dX8_readWord_68 rfl (lv_at hl 0 rfl) ?_
      refine zz_getr (k' := 1) hx hb hown zw hB zF_X8_7 zdM_0 rfl rfl dX8_readWord_69 ?_
      refine lv_aload_n hx hb dX8_readWord_72 rfl (lv_at hl 0 rfl) ?_
      refine zz_geti hx hb hown zw hB zF_X8_110 zdM_0 rfl dX8_readWord_73 ?_
      obtain ⟨hi76, h⟩ := h
      refine zz_iald hx hb hB zdM_1 hi76 dX8_readWord_76 ?_
      refine lv_bipush (v := (97 : Int32)) hx hb dX8_readWord_77 (by decide) ?_
      refine lv_isub hx hb dX8_readWord_79 ?_
      obtain ⟨hi80, h⟩ := h
      refine zz_iast hx hb hB zdM_9 hi80 dX8_readWord_80 (fun H locs hB => ?_)
      obtain ⟨I80, eI80⟩ : ∃ z : zz_I, z = zz_up I 9 (((5 : Int32) * x1) + (I 8 x1.toNatClampNeg)).toNatClampNeg ((I 1 (I 0 3).toNatClampNeg) - (97 : Int32)) := ⟨_, rfl⟩
      rw [← eI80] at hB
      have h := h I80 eI80
      refine lv_aload_n hx hb dX8_readWord_81 rfl (lv_at hl 0 rfl) ?_
      refine zz_getr (k' := 8) hx hb hown zw hB zF_X8_31 zdM_0 rfl rfl dX8_readWord_82 ?_
      refine lv_iload_n hx hb dX8_readWord_85 rfl (lv_at hl 1 rfl) ?_
      refine lv_dup2_11 hx hb dX8_readWord_86 rfl rfl ?_
      obtain ⟨hi87, h⟩ := h
      refine zz_iald hx hb hB zdM_8 hi87 dX8_readWord_87 ?_
      refine lv_iconst (v := (1 : Int32)) hx hb dX8_readWord_88 (by decide) ?_
      refine lv_iadd hx hb dX8_readWord_89 ?_
      obtain ⟨hi90, h⟩ := h
      refine zz_iast hx hb hB zdM_8 hi90 dX8_readWord_90 (fun H locs hB => ?_)
      obtain ⟨I90, eI90⟩ : ∃ z : zz_I, z = zz_up I80 8 x1.toNatClampNeg ((I80 8 x1.toNatClampNeg) + (1 : Int32)) := ⟨_, rfl⟩
      rw [← eI90] at hB
      have h := h I90 eI90
      refine lv_aload_n hx hb dX8_readWord_91 rfl (lv_at hl 0 rfl) ?_
      refine lv_dup hx hb dX8_readWord_92 rfl ?_
      refine zz_geti hx hb hown zw hB zF_X8_110 zdM_0 rfl dX8_readWord_93 ?_
      refine lv_iconst (v := (1 : Int32)) hx hb dX8_readWord_96 (by decide) ?_
      refine lv_iadd hx hb dX8_readWord_97 ?_
      refine zz_puti hx hb hown zw hB zP_X8_110 zdM_0 rfl dX8_readWord_98 (fun H locs hB => ?_)
      obtain ⟨I98, eI98⟩ : ∃ z : zz_I, z = zz_up I90 0 3 ((I90 0 3) + (1 : Int32)) := ⟨_, rfl⟩
      rw [← eI98] at hB
      have h := h I98 eI98
      refine lv_goto (tgt := 33) hx hb dX8_readWord_101 (by decide) ?_
      exact hK33 _ _ h H locs ls hB (lv_sub hl [0, 1] rfl)
def zp_X8_readWord_33  (P : Int32 → zz_I → zz_L → Prop) (x1 : Int32) (I : zz_I) (L : zz_L) : Prop := ∃ (Inv : zz_I → zz_L → Prop) (μ : zz_I → zz_L → Nat), Inv I L ∧ ∀  (I8 : zz_I) (L8 : zz_L), Inv I8 L8 → zp_X8_readWord_33b  (fun I7 L7 => Inv I7 L7 ∧ μ I7 L7 < μ I8 L8) P x1 I8 L8
set_option maxHeartbeats 4000000 in
set_option maxRecDepth 100000 in
theorem zq_X8_readWord_33 {p : Program} {l : Launch} {e : Env} {s : State} {m : MethodId} {args : Array Value} {below : List Frame} {meth : Method} {c : Code} {D : va_G} {ca : Nat → ClassId} {A : Nat → Prop} {a : Nat → Nat}  {P : Int32 → zz_I → zz_L → Prop} {I : zz_I} {L : zz_L} {x1 : Int32} (X : zz_X p s m meth c cX8_readWord RX8 (some .boolean) 4) (hA : ∀ q, s.heap.size ≤ q → A q)   (h : zp_X8_readWord_33  P x1 I L) : zz_Go p l e ({ frames := 2, cells := 0, slots := 0, locals := 48 } : Room) s m args below meth c 0 0 (MQ below (zz_Qi D ca zz_dM A a P) args s 0 0 A) D ca zz_dM A 4 33 a [] [(0, .ref (a 0)), (1, .int x1)] I L := by
  unfold zp_X8_readWord_33 at h
  obtain ⟨Inv, μ, hv0, hs⟩ := h
  have key : ∀ (n9 : Nat)  (I8 : zz_I) (L8 : zz_L), μ I8 L8 < n9 → Inv I8 L8 → zz_Go p l e ({ frames := 2, cells := 0, slots := 0, locals := 48 } : Room) s m args below meth c 0 0 (MQ below (zz_Qi D ca zz_dM A a P) args s 0 0 A) D ca zz_dM A 4 33 a [] [(0, .ref (a 0)), (1, .int x1)] I8 L8 := by
    intro n9
    induction n9 with
    | zero => intro I8 L8 hn; exact absurd hn (Nat.not_lt_zero _)
    | succ n9 ih =>
      intro I8 L8 hn hi
      exact zq_X8_readWord_33b (K33 := (fun I7 L7 => Inv I7 L7 ∧ μ I7 L7 < μ I8 L8)) X hA   (fun I7 L7 hz => ih I7 L7 (Nat.lt_of_lt_of_le hz.2 (Nat.le_of_lt_succ hn)) hz.1) (hs I8 L8 hi)
  exact key _ I L (Nat.lt_succ_self _) hv0
def zp_X8_readWord  (P : Int32 → zz_I → zz_L → Prop) (I : zz_I) (L : zz_L) : Prop := (¬ (I 0 11) = (8 : Int32) → ∀ I18 : zz_I, I18 = zz_up I 0 3 ((I 0 3) + (1 : Int32)) → (∀ v25 : Int32, v25 = I18 0 11 → (vp_in v25 8 ∧ (∀ I32 : zz_I, I32 = zz_up I18 8 v25.toNatClampNeg (0 : Int32) → (zp_X8_readWord_33 P v25 I32 L))))) ∧ ((I 0 11) = (8 : Int32) → P (0 : Int32) I L)
set_option maxHeartbeats 4000000 in
set_option maxRecDepth 100000 in
theorem zq_X8_readWord {p : Program} {l : Launch} {e : Env} {s : State} {m : MethodId} {args : Array Value} {below : List Frame} {meth : Method} {c : Code} {D : va_G} {ca : Nat → ClassId} {A : Nat → Prop} {a : Nat → Nat}  {P : Int32 → zz_I → zz_L → Prop} {I : zz_I} {L : zz_L}  (X : zz_X p s m meth c cX8_readWord RX8 (some .boolean) 4) (hA : ∀ q, s.heap.size ≤ q → A q)   (h : zp_X8_readWord  P I L) : zz_Go p l e ({ frames := 2, cells := 0, slots := 0, locals := 48 } : Room) s m args below meth c 0 0 (MQ below (zz_Qi D ca zz_dM A a P) args s 0 0 A) D ca zz_dM A 4 0 a [] [(0, .ref (a 0))] I L := by
  obtain ⟨hx, hb, hml, hown, zw, hr, hlocks⟩ := id X
  intro H locs ls hB hl
  unfold zp_X8_readWord at h
  refine lv_aload_n hx hb dX8_readWord_0 rfl (lv_at hl 0 rfl) ?_
  refine zz_geti hx hb hown zw hB zF_X8_113 zdM_0 rfl dX8_readWord_1 ?_
  refine lv_bipush (v := (8 : Int32)) hx hb dX8_readWord_4 (by decide) ?_
  refine lv_icmp_ne (tgt := 11) hx hb dX8_readWord_6 (by decide) (fun c6 => ?_) (fun c6 => ?_)
  · have h := h.1 c6
    refine lv_aload_n hx hb dX8_readWord_11 rfl (lv_at hl 0 rfl) ?_
    refine lv_dup hx hb dX8_readWord_12 rfl ?_
    refine zz_geti hx hb hown zw hB zF_X8_110 zdM_0 rfl dX8_readWord_13 ?_
    refine lv_iconst (v := (1 : Int32)) hx hb dX8_readWord_16 (by decide) ?_
    refine lv_iadd hx hb dX8_readWord_17 ?_
    refine zz_puti hx hb hown zw hB zP_X8_110 zdM_0 rfl dX8_readWord_18 (fun H locs hB => ?_)
    obtain ⟨I18, eI18⟩ : ∃ z : zz_I, z = zz_up I 0 3 ((I 0 3) + (1 : Int32)) := ⟨_, rfl⟩
    rw [← eI18] at hB
    have h := h I18 eI18
    refine lv_aload_n hx hb dX8_readWord_21 rfl (lv_at hl 0 rfl) ?_
    refine zz_geti hx hb hown zw hB zF_X8_113 zdM_0 rfl dX8_readWord_22 ?_
    refine lv_topi (fun v25 ev25 => ?_)
    have h := h v25 ev25
    refine lv_istore_n (lv' := [(1, .int v25), (0, .ref (a 0))]) hx hb dX8_readWord_25 rfl hl (by decide) rfl (fun ls hl => ?_)
    refine lv_aload_n hx hb dX8_readWord_26 rfl (lv_at hl 1 rfl) ?_
    refine zz_getr (k' := 8) hx hb hown zw hB zF_X8_31 zdM_0 rfl rfl dX8_readWord_27 ?_
    refine lv_iload_n hx hb dX8_readWord_30 rfl (lv_at hl 0 rfl) ?_
    refine lv_iconst (v := (0 : Int32)) hx hb dX8_readWord_31 (by decide) ?_
    obtain ⟨hi32, h⟩ := h
    refine zz_iast hx hb hB zdM_8 hi32 dX8_readWord_32 (fun H locs hB => ?_)
    obtain ⟨I32, eI32⟩ : ∃ z : zz_I, z = zz_up I18 8 v25.toNatClampNeg (0 : Int32) := ⟨_, rfl⟩
    rw [← eI32] at hB
    have h := h I32 eI32
    exact zq_X8_readWord_33 X hA  h H locs ls hB (lv_sub hl [1, 0] rfl)
  · have h := h.2 c6
    refine lv_iconst (v := (0 : Int32)) hx hb dX8_readWord_9 (by decide) ?_
    exact zz_zret hx hb hr hlocks zz_bool0 hB h dX8_readWord_10
theorem zc_X8_readWord (l : Launch) (D : va_G) (ca : Nat → ClassId) (a : Nat → Nat) (I : zz_I) (L : zz_L) (sz : Nat)  {P : Int32 → zz_I → zz_L → Prop}  (h : zp_X8_readWord  P I L) : Met l yX8_readWord [.code yX8_readWord cX8_readWord 4 (some .boolean)] ({ frames := 2, cells := 0, slots := 0, locals := 48 } : Room) (zz_Pre D ca zz_dM [.ref (a 0)] a I L sz) (zz_Qi D ca zz_dM (zz_A ca zz_dM a I L sz) a P) 0 0 (zz_A ca zz_dM a I L sz) :=
  zz_start (by decide) (Nat.le_of_ble_eq_true rfl) (fun p e s m below meth c X hsz hA => zq_X8_readWord X hA  h)
def zp_X8_toldOf_34  (P : Int32 → Prop) (x1 : Int32) (s0 : Int32) (s1 : Int32) (I : zz_I) (L : zz_L) : Prop := vp_in (((3 : Int32) * x1) + (2 : Int32)) 9 ∧ (((I 12 (((3 : Int32) * x1) + (2 : Int32)).toNatClampNeg) = 0 → P ((s1 + s0) + (0 : Int32))) ∧ (¬ (I 12 (((3 : Int32) * x1) + (2 : Int32)).toNatClampNeg) = 0 → P ((s1 + s0) + (1 : Int32))))
set_option maxHeartbeats 4000000 in
set_option maxRecDepth 100000 in
theorem zq_X8_toldOf_34 {p : Program} {l : Launch} {e : Env} {s : State} {m : MethodId} {args : Array Value} {below : List Frame} {meth : Method} {c : Code} {D : va_G} {ca : Nat → ClassId} {A : Nat → Prop} {a : Nat → Nat}  {P : Int32 → Prop} {I : zz_I} {L : zz_L} {x1 : Int32} {s0 : Int32} {s1 : Int32} (X : zz_X p s m meth c cX8_toldOf RX8 (some .int) 2) (hA : ∀ q, s.heap.size ≤ q → A q)   (h : zp_X8_toldOf_34  P x1 s0 s1 I L) : zz_Go p l e ({ frames := 0, cells := 0, slots := 0, locals := 0 } : Room) s m args below meth c 0 0 (MQ below (zz_Qi D ca zz_dM A a (fun r I9 L9 => P r ∧ I9 = I ∧ L9 = L)) args s 0 0 A) D ca zz_dM A 2 34 a [.int s0, .int s1] [(0, .ref (a 0)), (1, .int x1)] I L := by
  obtain ⟨hx, hb, hml, hown, zw, hr, hlocks⟩ := id X
  intro H locs ls hB hl
  unfold zp_X8_toldOf_34 at h
  refine lv_iadd hx hb dX8_toldOf_34 ?_
  refine lv_aload_n hx hb dX8_toldOf_35 rfl (lv_at hl 0 rfl) ?_
  refine zz_getr (k' := 12) hx hb hown zw hB zF_X8_43 zdM_0 rfl rfl dX8_toldOf_36 ?_
  refine lv_iconst (v := (3 : Int32)) hx hb dX8_toldOf_39 (by decide) ?_
  refine lv_iload_n hx hb dX8_toldOf_40 rfl (lv_at hl 1 rfl) ?_
  refine lv_imul hx hb dX8_toldOf_41 ?_
  refine lv_iconst (v := (2 : Int32)) hx hb dX8_toldOf_42 (by decide) ?_
  refine lv_iadd hx hb dX8_toldOf_43 ?_
  obtain ⟨hi44, h⟩ := h
  refine zz_zald hx hb hB zdM_12 hi44 dX8_toldOf_44 ?_
  refine lv_if_eq (tgt := 52) hx hb dX8_toldOf_45 (by decide) (fun c45 => ?_) (fun c45 => ?_)
  · have h := h.1 c45
    refine lv_iconst (v := (0 : Int32)) hx hb dX8_toldOf_52 (by decide) ?_
    refine lv_iadd hx hb dX8_toldOf_53 ?_
    exact zz_iret hx hb hr hlocks hB ⟨h, rfl, rfl⟩ dX8_toldOf_54
  · have h := h.2 c45
    refine lv_iconst (v := (1 : Int32)) hx hb dX8_toldOf_48 (by decide) ?_
    refine lv_goto (tgt := 53) hx hb dX8_toldOf_49 (by decide) ?_
    refine lv_iadd hx hb dX8_toldOf_53 ?_
    exact zz_iret hx hb hr hlocks hB ⟨h, rfl, rfl⟩ dX8_toldOf_54
def zp_X8_toldOf_16  (P : Int32 → Prop) (x1 : Int32) (s0 : Int32) (I : zz_I) (L : zz_L) : Prop := vp_in (((3 : Int32) * x1) + (1 : Int32)) 9 ∧ (((I 12 (((3 : Int32) * x1) + (1 : Int32)).toNatClampNeg) = 0 → zp_X8_toldOf_34 P x1 (0 : Int32) s0 I L) ∧ (¬ (I 12 (((3 : Int32) * x1) + (1 : Int32)).toNatClampNeg) = 0 → zp_X8_toldOf_34 P x1 (1 : Int32) s0 I L))
set_option maxHeartbeats 4000000 in
set_option maxRecDepth 100000 in
theorem zq_X8_toldOf_16 {p : Program} {l : Launch} {e : Env} {s : State} {m : MethodId} {args : Array Value} {below : List Frame} {meth : Method} {c : Code} {D : va_G} {ca : Nat → ClassId} {A : Nat → Prop} {a : Nat → Nat}  {P : Int32 → Prop} {I : zz_I} {L : zz_L} {x1 : Int32} {s0 : Int32} (X : zz_X p s m meth c cX8_toldOf RX8 (some .int) 2) (hA : ∀ q, s.heap.size ≤ q → A q)   (h : zp_X8_toldOf_16  P x1 s0 I L) : zz_Go p l e ({ frames := 0, cells := 0, slots := 0, locals := 0 } : Room) s m args below meth c 0 0 (MQ below (zz_Qi D ca zz_dM A a (fun r I9 L9 => P r ∧ I9 = I ∧ L9 = L)) args s 0 0 A) D ca zz_dM A 2 16 a [.int s0] [(0, .ref (a 0)), (1, .int x1)] I L := by
  obtain ⟨hx, hb, hml, hown, zw, hr, hlocks⟩ := id X
  intro H locs ls hB hl
  unfold zp_X8_toldOf_16 at h
  refine lv_aload_n hx hb dX8_toldOf_16 rfl (lv_at hl 0 rfl) ?_
  refine zz_getr (k' := 12) hx hb hown zw hB zF_X8_43 zdM_0 rfl rfl dX8_toldOf_17 ?_
  refine lv_iconst (v := (3 : Int32)) hx hb dX8_toldOf_20 (by decide) ?_
  refine lv_iload_n hx hb dX8_toldOf_21 rfl (lv_at hl 1 rfl) ?_
  refine lv_imul hx hb dX8_toldOf_22 ?_
  refine lv_iconst (v := (1 : Int32)) hx hb dX8_toldOf_23 (by decide) ?_
  refine lv_iadd hx hb dX8_toldOf_24 ?_
  obtain ⟨hi25, h⟩ := h
  refine zz_zald hx hb hB zdM_12 hi25 dX8_toldOf_25 ?_
  refine lv_if_eq (tgt := 33) hx hb dX8_toldOf_26 (by decide) (fun c26 => ?_) (fun c26 => ?_)
  · have h := h.1 c26
    refine lv_iconst (v := (0 : Int32)) hx hb dX8_toldOf_33 (by decide) ?_
    exact zq_X8_toldOf_34 X hA  h H locs ls hB (lv_sub hl [0, 1] rfl)
  · have h := h.2 c26
    refine lv_iconst (v := (1 : Int32)) hx hb dX8_toldOf_29 (by decide) ?_
    refine lv_goto (tgt := 34) hx hb dX8_toldOf_30 (by decide) ?_
    exact zq_X8_toldOf_34 X hA  h H locs ls hB (lv_sub hl [0, 1] rfl)
def zp_X8_toldOf (x1 : Int32) (P : Int32 → Prop) (I : zz_I) (L : zz_L) : Prop := vp_in ((3 : Int32) * x1) 9 ∧ (((I 12 ((3 : Int32) * x1).toNatClampNeg) = 0 → zp_X8_toldOf_16 P x1 (0 : Int32) I L) ∧ (¬ (I 12 ((3 : Int32) * x1).toNatClampNeg) = 0 → zp_X8_toldOf_16 P x1 (1 : Int32) I L))
set_option maxHeartbeats 4000000 in
set_option maxRecDepth 100000 in
theorem zq_X8_toldOf {p : Program} {l : Launch} {e : Env} {s : State} {m : MethodId} {args : Array Value} {below : List Frame} {meth : Method} {c : Code} {D : va_G} {ca : Nat → ClassId} {A : Nat → Prop} {a : Nat → Nat}  {P : Int32 → Prop} {I : zz_I} {L : zz_L} {x1 : Int32} (X : zz_X p s m meth c cX8_toldOf RX8 (some .int) 2) (hA : ∀ q, s.heap.size ≤ q → A q)   (h : zp_X8_toldOf x1 P I L) : zz_Go p l e ({ frames := 0, cells := 0, slots := 0, locals := 0 } : Room) s m args below meth c 0 0 (MQ below (zz_Qi D ca zz_dM A a (fun r I9 L9 => P r ∧ I9 = I ∧ L9 = L)) args s 0 0 A) D ca zz_dM A 2 0 a [] [(0, .ref (a 0)), (1, .int x1)] I L := by
  obtain ⟨hx, hb, hml, hown, zw, hr, hlocks⟩ := id X
  intro H locs ls hB hl
  unfold zp_X8_toldOf at h
  refine lv_aload_n hx hb dX8_toldOf_0 rfl (lv_at hl 0 rfl) ?_
  refine zz_getr (k' := 12) hx hb hown zw hB zF_X8_43 zdM_0 rfl rfl dX8_toldOf_1 ?_
  refine lv_iconst (v := (3 : Int32)) hx hb dX8_toldOf_4 (by decide) ?_
  refine lv_iload_n hx hb dX8_toldOf_5 rfl (lv_at hl 1 rfl) ?_
  refine lv_imul hx hb dX8_toldOf_6 ?_
  obtain ⟨hi7, h⟩ := h
  refine zz_zald hx hb hB zdM_12 hi7 dX8_toldOf_7 ?_
  refine lv_if_eq (tgt := 15) hx hb dX8_toldOf_8 (by decide) (fun c8 => ?_) (fun c8 => ?_)
  · have h := h.1 c8
    refine lv_iconst (v := (0 : Int32)) hx hb dX8_toldOf_15 (by decide) ?_
    exact zq_X8_toldOf_16 X hA  h H locs ls hB (lv_sub hl [0, 1] rfl)
  · have h := h.2 c8
    refine lv_iconst (v := (1 : Int32)) hx hb dX8_toldOf_11 (by decide) ?_
    refine lv_goto (tgt := 16) hx hb dX8_toldOf_12 (by decide) ?_
    exact zq_X8_toldOf_16 X hA  h H locs ls hB (lv_sub hl [0, 1] rfl)
theorem zc_X8_toldOf (l : Launch) (D : va_G) (ca : Nat → ClassId) (a : Nat → Nat) (I : zz_I) (L : zz_L) (sz : Nat) {x1 : Int32} {P : Int32 → Prop}  (h : zp_X8_toldOf x1 P I L) : Met l yX8_toldOf [.code yX8_toldOf cX8_toldOf 2 (some .int)] ({ frames := 0, cells := 0, slots := 0, locals := 0 } : Room) (zz_Pre D ca zz_dM [.ref (a 0), .int x1] a I L sz) (zz_Qi D ca zz_dM (zz_A ca zz_dM a I L sz) a (fun r I9 L9 => P r ∧ I9 = I ∧ L9 = L)) 0 0 (zz_A ca zz_dM a I L sz) :=
  zz_start (by decide) (Nat.le_of_ble_eq_true rfl) (fun p e s m below meth c X hsz hA => zq_X8_toldOf X hA  h)
