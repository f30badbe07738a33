def zp_X3_build_43b (K36 : Int32 → zz_I → zz_L → Prop) (K43 : Int32 → zz_I → zz_L → Prop) (P : zz_I → zz_L → Prop) (x3 : Int32) (x4 : Int32) (I : zz_I) (L : zz_L) : Prop := ((I 37 7) ≤ x4 → ∀ v76 : Int32, v76 = x3 + (-1 : Int32) → (K36 v76 I L)) ∧ (¬ (I 37 7) ≤ x4 → zp_X0_isOpen x3 x4 (fun r56 => (r56 = 0 → ∀ v70 : Int32, v70 = x4 + (1 : Int32) → (K43 v70 I L)) ∧ (¬ r56 = 0 → zp_X3_fillRow x3 x4 (fun I67 L67 => ∀ v70 : Int32, v70 = x4 + (1 : Int32) → (K43 v70 I67 L67)) I L)) I L)
set_option maxHeartbeats 4000000 in
set_option maxRecDepth 100000 in
theorem zq_X3_build_43b {p : Program} {l : Launch} {e : Env} {s : State} {m : MethodId} {args : Array Value} {below : List Frame} {meth : Method} {c : Code} {D : va_G} {ca : Nat → ClassId} {A : Nat → Prop} {a : Nat → Nat} {K36 : Int32 → zz_I → zz_L → Prop} {K43 : Int32 → zz_I → zz_L → Prop} {P : zz_I → zz_L → Prop} {I : zz_I} {L : zz_L} {x3 : Int32} {x4 : Int32} (X : zz_X p s m meth c cX3_build RX3 none 5) (hA : ∀ q, s.heap.size ≤ q → A q)  (hK36 : ∀ (y3 : Int32) (I8 : zz_I) (L8 : zz_L), K36 y3 I8 L8 → zz_Go p l e ({ frames := 2, cells := 0, slots := 0, locals := 52 } : Room) s m args below meth c 0 0 (MQ below (zz_Qv D ca zz_dC A a P) args s 0 0 A) D ca zz_dC A 5 36 a [] [(0, .ref (a 44)), (1, .ref (a 37)), (3, .int y3)] I8 L8) (hK43 : ∀ (y4 : Int32) (I8 : zz_I) (L8 : zz_L), K43 y4 I8 L8 → zz_Go p l e ({ frames := 2, cells := 0, slots := 0, locals := 52 } : Room) s m args below meth c 0 0 (MQ below (zz_Qv D ca zz_dC A a P) args s 0 0 A) D ca zz_dC A 5 43 a [] [(0, .ref (a 44)), (1, .ref (a 37)), (3, .int x3), (4, .int y4)] I8 L8) (h : zp_X3_build_43b K36 K43 P x3 x4 I L) : zz_Go p l e ({ frames := 2, cells := 0, slots := 0, locals := 52 } : Room) s m args below meth c 0 0 (MQ below (zz_Qv D ca zz_dC A a P) args s 0 0 A) D ca zz_dC A 5 43 a [] [(0, .ref (a 44)), (1, .ref (a 37)), (3, .int x3), (4, .int x4)] I L := by
  obtain ⟨hx, hb, hml, hown, zw, hr, hlocks⟩ := id X
  intro H locs ls hB hl
  unfold zp_X3_build_43b at h
  refine lv_iload hx hb dX3_build_43 (lv_at hl 3 rfl) ?_
  refine lv_aload_n hx hb dX3_build_45 rfl (lv_at hl 1 rfl) ?_
  refine zz_geti hx hb hown zw hB zF_X3_40 zdC_37 rfl dX3_build_46 ?_
  refine lv_icmp_ge (tgt := 76) hx hb dX3_build_49 (by decide) (fun c49 => ?_) (fun c49 => ?_)
  · have h := h.1 c49
    obtain ⟨v76, ev76⟩ : ∃ z : Int32, z = x3 + (-1 : Int32) := ⟨_, rfl⟩
    have h := h v76 ev76
    refine lv_iinc (v := v76) (lv' := [(3, .int v76), (0, .ref (a 44)), (1, .ref (a 37)), (4, .int x4)]) hx hb dX3_build_76 hl (k := 2) rfl (by rw [ev76]; rfl) (by decide) rfl (fun ls hl => ?_)
    refine lv_goto (tgt := 36) hx hb dX3_build_79 (by decide) ?_
    exact hK36 _ _ _ h H locs ls hB (lv_sub hl [1, 2, 0] rfl)
  · have h := h.2 c49
    refine lv_aload_n hx hb dX3_build_52 rfl (lv_at hl 1 rfl) ?_
    refine lv_iload_n hx hb dX3_build_53 rfl (lv_at hl 2 rfl) ?_
    refine lv_iload hx hb dX3_build_54 (lv_at hl 3 rfl) ?_
    refine zz_goip hB hA (zz_runV (As := [.int x3, .int x4]) (rest := []) hx hb hml hown zw hB zM_X3_43 (zc_X0_isOpen l D ca a I L H.size h) zdC_37 rfl rfl hl.1 rfl (Nat.le_of_ble_eq_true rfl) rfl rfl ⟨Nat.le_of_ble_eq_true rfl, Nat.le_of_ble_eq_true rfl⟩ dX3_build_56 ⟨Nat.le_of_ble_eq_true rfl, Nat.le_of_ble_eq_true rfl⟩) (fun r56 H locs h hB => ?_)
    refine lv_if_eq (tgt := 70) hx hb dX3_build_59 (by decide) (fun c59 => ?_) (fun c59 => ?_)
    · have h := h.1 c59
      obtain ⟨v70, ev70⟩ : ∃ z : Int32, z = x4 + (1 : Int32) := ⟨_, rfl⟩
      have h := h v70 ev70
      refine lv_iinc (v := v70) (lv' := [(4, .int v70), (0, .ref (a 44)), (1, .ref (a 37)), (3, .int x3)]) hx hb dX3_build_70 hl (k := 3) rfl (by rw [ev70]; rfl) (by decide) rfl (fun ls hl => ?_)
      refine lv_goto (tgt := 43) hx hb dX3_build_73 (by decide) ?_
      exact hK43 _ _ _ h H locs ls hB (lv_sub hl [1, 2, 3, 0] rfl)
    · have h := h.2 c59
      refine lv_aload_n hx hb dX3_build_62 rfl (lv_at hl 0 rfl) ?_
      refine lv_aload_n hx hb dX3_build_63 rfl (lv_at hl 1 rfl) ?_
      refine lv_iload_n hx hb dX3_build_64 rfl (lv_at hl 2 rfl) ?_
      refine lv_iload hx hb dX3_build_65 (lv_at hl 3 rfl) ?_
      refine zz_gov hB hA (zz_runV (As := [.ref (a 37), .int x3, .int x4]) (rest := []) hx hb hml hown zw hB zM_X3_47 (zc_X3_fillRow l D ca a I L H.size h) zdC_44 rfl rfl hl.1 rfl (Nat.le_of_ble_eq_true rfl) rfl rfl ⟨Nat.le_of_ble_eq_true rfl, Nat.le_of_ble_eq_true rfl⟩ dX3_build_67 ⟨Nat.le_of_ble_eq_true rfl, Nat.le_of_ble_eq_true rfl⟩) (fun I67 L67 H locs h hB => ?_)
      obtain ⟨v70, ev70⟩ : ∃ z : Int32, z = x4 + (1 : Int32) := ⟨_, rfl⟩
      have h := h v70 ev70
      refine lv_iinc (v := v70) (lv' := [(4, .int v70), (0, .ref (a 44)), (1, .ref (a 37)), (3, .int x3)]) hx hb dX3_build_70 hl (k := 3) rfl (by rw [ev70]; rfl) (by decide) rfl (fun ls hl => ?_)
      refine lv_goto (tgt := 43) hx hb dX3_build_73 (by decide) ?_
      exact hK43 _ _ _ h H locs ls hB (lv_sub hl [1, 2, 3, 0] rfl)
def zp_X3_build_43 (K36 : Int32 → zz_I → zz_L → Prop) (P : zz_I → zz_L → Prop) (x3 : Int32) (x4 : Int32) (I : zz_I) (L : zz_L) : Prop := ∃ (Inv : Int32 → zz_I → zz_L → Prop) (μ : Int32 → zz_I → zz_L → Nat), Inv x4 I L ∧ ∀ (y4 : Int32) (I8 : zz_I) (L8 : zz_L), Inv y4 I8 L8 → zp_X3_build_43b K36 (fun z4 I7 L7 => Inv z4 I7 L7 ∧ μ z4 I7 L7 < μ y4 I8 L8) P x3 y4 I8 L8
set_option maxHeartbeats 4000000 in
set_option maxRecDepth 100000 in
theorem zq_X3_build_43 {p : Program} {l : Launch} {e : Env} {s : State} {m : MethodId} {args : Array Value} {below : List Frame} {meth : Method} {c : Code} {D : va_G} {ca : Nat → ClassId} {A : Nat → Prop} {a : Nat → Nat} {K36 : Int32 → zz_I → zz_L → Prop} {P : zz_I → zz_L → Prop} {I : zz_I} {L : zz_L} {x3 : Int32} {x4 : Int32} (X : zz_X p s m meth c cX3_build RX3 none 5) (hA : ∀ q, s.heap.size ≤ q → A q)  (hK36 : ∀ (y3 : Int32) (I8 : zz_I) (L8 : zz_L), K36 y3 I8 L8 → zz_Go p l e ({ frames := 2, cells := 0, slots := 0, locals := 52 } : Room) s m args below meth c 0 0 (MQ below (zz_Qv D ca zz_dC A a P) args s 0 0 A) D ca zz_dC A 5 36 a [] [(0, .ref (a 44)), (1, .ref (a 37)), (3, .int y3)] I8 L8) (h : zp_X3_build_43 K36 P x3 x4 I L) : zz_Go p l e ({ frames := 2, cells := 0, slots := 0, locals := 52 } : Room) s m args below meth c 0 0 (MQ below (zz_Qv D ca zz_dC A a P) args s 0 0 A) D ca zz_dC A 5 43 a [] [(0, .ref (a 44)), (1, .ref (a 37)), (3, .int x3), (4, .int x4)] I L := by
  unfold zp_X3_build_43 at h
  obtain ⟨Inv, μ, hv0, hs⟩ := h
  have key : ∀ (n9 : Nat) (y4 : Int32) (I8 : zz_I) (L8 : zz_L), μ y4 I8 L8 < n9 → Inv y4 I8 L8 → zz_Go p l e ({ frames := 2, cells := 0, slots := 0, locals := 52 } : Room) s m args below meth c 0 0 (MQ below (zz_Qv D ca zz_dC A a P) args s 0 0 A) D ca zz_dC A 5 43 a [] [(0, .ref (a 44)), (1, .ref (a 37)), (3, .int x3), (4, .int y4)] I8 L8 := by
    intro n9
    induction n9 with
    | zero => intro y4 I8 L8 hn; exact absurd hn (Nat.not_lt_zero _)
    | succ n9 ih =>
      intro y4 I8 L8 hn hi
      exact zq_X3_build_43b (K43 := (fun z4 I7 L7 => Inv z4 I7 L7 ∧ μ z4 I7 L7 < μ y4 I8 L8)) X hA  hK36 (fun z4 I7 L7 hz => ih z4 I7 L7 (Nat.lt_of_lt_of_le hz.2 (Nat.le_of_lt_succ hn)) hz.1) (hs y4 I8 L8 hi)
  exact key _ x4 I L (Nat.lt_succ_self _) hv0
def zp_X3_build_36b (K36 : Int32 → zz_I → zz_L → Prop) (P : zz_I → zz_L → Prop) (x3 : Int32) (I : zz_I) (L : zz_L) : Prop := (x3 < 0 → P I L) ∧ (¬ x3 < 0 → zp_X3_build_43 K36 P x3 (0 : Int32) I L)
set_option maxHeartbeats 4000000 in
set_option maxRecDepth 100000 in
theorem zq_X3_build_36b {p : Program} {l : Launch} {e : Env} {s : State} {m : MethodId} {args : Array Value} {below : List Frame} {meth : Method} {c : Code} {D : va_G} {ca : Nat → ClassId} {A : Nat → Prop} {a : Nat → Nat} {K36 : Int32 → zz_I → zz_L → Prop} {P : zz_I → zz_L → Prop} {I : zz_I} {L : zz_L} {x3 : Int32} (X : zz_X p s m meth c cX3_build RX3 none 5) (hA : ∀ q, s.heap.size ≤ q → A q)  (hK36 : ∀ (y3 : Int32) (I8 : zz_I) (L8 : zz_L), K36 y3 I8 L8 → zz_Go p l e ({ frames := 2, cells := 0, slots := 0, locals := 52 } : Room) s m args below meth c 0 0 (MQ below (zz_Qv D ca zz_dC A a P) args s 0 0 A) D ca zz_dC A 5 36 a [] [(0, .ref (a 44)), (1, .ref (a 37)), (3, .int y3)] I8 L8) (h : zp_X3_build_36b K36 P x3 I L) : zz_Go p l e ({ frames := 2, cells := 0, slots := 0, locals := 52 } : Room) s m args below meth c 0 0 (MQ below (zz_Qv D ca zz_dC A a P) args s 0 0 A) D ca zz_dC A 5 36 a [] [(0, .ref (a 44)), (1, .ref (a 37)), (3, .int x3)] I L := by
  obtain ⟨hx, hb, hml, hown, zw, hr, hlocks⟩ := id X
  intro H locs ls hB hl
  unfold zp_X3_build_36b at h
  refine lv_iload_n hx hb dX3_build_36 rfl (lv_at hl 2 rfl) ?_
  refine lv_if_lt (tgt := 82) hx hb dX3_build_37 (by decide) (fun c37 => ?_) (fun c37 => ?_)
  · have h := h.1 c37
    exact zz_vret hx hb hr hlocks hB h dX3_build_82
  · have h := h.2 c37
    refine lv_iconst (v := (0 : Int32)) hx hb dX3_build_40 (by decide) ?_
    refine lv_istore (lv' := [(4, .int (0 : Int32)), (0, .ref (a 44)), (1, .ref (a 37)), (3, .int x3)]) hx hb dX3_build_41 hl (by decide) rfl (fun ls hl => ?_)
    exact zq_X3_build_43 X hA hK36 h H locs ls hB (lv_sub hl [1, 2, 3, 0] rfl)
def zp_X3_build_36  (P : zz_I → zz_L → Prop) (x3 : Int32) (I : zz_I) (L : zz_L) : Prop := ∃ (Inv : Int32 → zz_I → zz_L → Prop) (μ : Int32 → zz_I → zz_L → Nat), Inv x3 I L ∧ ∀ (y3 : Int32) (I8 : zz_I) (L8 : zz_L), Inv y3 I8 L8 → zp_X3_build_36b  (fun z3 I7 L7 => Inv z3 I7 L7 ∧ μ z3 I7 L7 < μ y3 I8 L8) P y3 I8 L8
set_option maxHeartbeats 4000000 in
set_option maxRecDepth 100000 in
theorem zq_X3_build_36 {p : Program} {l : Launch} {e : Env} {s : State} {m : MethodId} {args : Array Value} {below : List Frame} {meth : Method} {c : Code} {D : va_G} {ca : Nat → ClassId} {A : Nat → Prop} {a : Nat → Nat}  {P : zz_I → zz_L → Prop} {I : zz_I} {L : zz_L} {x3 : Int32} (X : zz_X p s m meth c cX3_build RX3 none 5) (hA : ∀ q, s.heap.size ≤ q → A q)   (h : zp_X3_build_36  P x3 I L) : zz_Go p l e ({ frames := 2, cells := 0, slots := 0, locals := 52 } : Room) s m args below meth c 0 0 (MQ below (zz_Qv D ca zz_dC A a P) args s 0 0 A) D ca zz_dC A 5 36 a [] [(0, .ref (a 44)), (1, .ref (a 37)), (3, .int x3)] I L := by
  unfold zp_X3_build_36 at h
  obtain ⟨Inv, μ, hv0, hs⟩ := h
  have key : ∀ (n9 : Nat) (y3 : Int32) (I8 : zz_I) (L8 : zz_L), μ y3 I8 L8 < n9 → Inv y3 I8 L8 → zz_Go p l e ({ frames := 2, cells := 0, slots := 0, locals := 52 } : Room) s m args below meth c 0 0 (MQ below (zz_Qv D ca zz_dC A a P) args s 0 0 A) D ca zz_dC A 5 36 a [] [(0, .ref (a 44)), (1, .ref (a 37)), (3, .int y3)] I8 L8 := by
    intro n9
    induction n9 with
    | zero => intro y3 I8 L8 hn; exact absurd hn (Nat.not_lt_zero _)
    | succ n9 ih =>
      intro y3 I8 L8 hn hi
      exact zq_X3_build_36b (K36 := (fun z3 I7 L7 => Inv z3 I7 L7 ∧ μ z3 I7 L7 < μ y3 I8 L8)) X hA   (fun z3 I7 L7 hz => ih z3 I7 L7 (Nat.lt_of_lt_of_le hz.2 (Nat.le_of_lt_succ hn)) hz.1) (hs y3 I8 L8 hi)
  exact key _ x3 I L (Nat.lt_succ_self _) hv0
def zp_X3_build_17  (P : zz_I → zz_L → Prop)  (I : zz_I) (L : zz_L) : Prop := ∀ I26 : zz_I, I26 = zz_cp I 24 46 8 → (∀ v35 : Int32, v35 = (I26 37 6) - (1 : Int32) → (zp_X3_build_36 P v35 I26 L))
set_option maxHeartbeats 4000000 in
set_option maxRecDepth 100000 in
theorem zq_X3_build_17 {p : Program} {l : Launch} {e : Env} {s : State} {m : MethodId} {args : Array Value} {below : List Frame} {meth : Method} {c : Code} {D : va_G} {ca : Nat → ClassId} {A : Nat → Prop} {a : Nat → Nat}  {P : zz_I → zz_L → Prop} {I : zz_I} {L : zz_L}  (X : zz_X p s m meth c cX3_build RX3 none 5) (hA : ∀ q, s.heap.size ≤ q → A q)   (h : zp_X3_build_17  P  I L) : zz_Go p l e ({ frames := 2, cells := 0, slots := 0, locals := 52 } : Room) s m args below meth c 0 0 (MQ below (zz_Qv D ca zz_dC A a P) args s 0 0 A) D ca zz_dC A 5 17 a [] [(0, .ref (a 44)), (1, .ref (a 37)), (2, .ref (a 24))] I L := by
  obtain ⟨hx, hb, hml, hown, zw, hr, hlocks⟩ := id X
  intro H locs ls hB hl
  unfold zp_X3_build_17 at h
  refine lv_aload_n hx hb dX3_build_17 rfl (lv_at hl 2 rfl) ?_
  refine lv_iconst (v := (0 : Int32)) hx hb dX3_build_18 (by decide) ?_
  refine lv_aload_n hx hb dX3_build_19 rfl (lv_at hl 0 rfl) ?_
  refine zz_getr (k' := 46) hx hb hown zw hB zF_X3_15 zdC_44 rfl rfl dX3_build_20 ?_
  refine lv_iconst (v := (0 : Int32)) hx hb dX3_build_23 (by decide) ?_
  refine lv_bipush (v := (8 : Int32)) hx hb dX3_build_24 (by decide) ?_
  refine zz_copy (nn := 8) hx hb (hml.trans hl.1.symm) hown zw zk_X3_acp hB zdC_24 zdC_46 rfl (Nat.le_of_ble_eq_true rfl) (Nat.le_of_ble_eq_true rfl) (Nat.le_of_ble_eq_true rfl) (Nat.le_of_ble_eq_true rfl) (Nat.le_of_ble_eq_true rfl) dX3_build_26 (fun H locs hB => ?_)
  obtain ⟨I26, eI26⟩ : ∃ z : zz_I, z = zz_cp I 24 46 8 := ⟨_, rfl⟩
  rw [← eI26] at hB
  have h := h I26 eI26
  refine lv_aload_n hx hb dX3_build_29 rfl (lv_at hl 1 rfl) ?_
  refine zz_geti hx hb hown zw hB zF_X3_35 zdC_37 rfl dX3_build_30 ?_
  refine lv_iconst (v := (1 : Int32)) hx hb dX3_build_33 (by decide) ?_
  refine lv_isub hx hb dX3_build_34 ?_
  refine lv_topi (fun v35 ev35 => ?_)
  have h := h v35 ev35
  refine lv_istore_n (lv' := [(3, .int v35), (0, .ref (a 44)), (1, .ref (a 37)), (2, .ref (a 24))]) hx hb dX3_build_35 rfl hl (by decide) rfl (fun ls hl => ?_)
  exact zq_X3_build_36 X hA  h H locs ls hB (lv_sub hl [1, 2, 0] rfl)
def zp_X3_build  (P : zz_I → zz_L → Prop) (I : zz_I) (L : zz_L) : Prop := (¬ (nI (I 45 0).toNatClampNeg) = 0 → zp_X3_build_17 P I L) ∧ ((nI (I 45 0).toNatClampNeg) = 0 → False)
set_option maxHeartbeats 4000000 in
set_option maxRecDepth 100000 in
theorem zq_X3_build {p : Program} {l : Launch} {e : Env} {s : State} {m : MethodId} {args : Array Value} {below : List Frame} {meth : Method} {c : Code} {D : va_G} {ca : Nat → ClassId} {A : Nat → Prop} {a : Nat → Nat}  {P : zz_I → zz_L → Prop} {I : zz_I} {L : zz_L}  (X : zz_X p s m meth c cX3_build RX3 none 5) (hA : ∀ q, s.heap.size ≤ q → A q)   (h : zp_X3_build  P I L) : zz_Go p l e ({ frames := 2, cells := 0, slots := 0, locals := 52 } : Room) s m args below meth c 0 0 (MQ below (zz_Qv D ca zz_dC A a P) args s 0 0 A) D ca zz_dC A 5 0 a [] [(0, .ref (a 44)), (1, .ref (a 37)), (2, .ref (a 24))] I L := by
  obtain ⟨hx, hb, hml, hown, zw, hr, hlocks⟩ := id X
  intro H locs ls hB hl
  unfold zp_X3_build at h
  refine lv_aload_n hx hb dX3_build_0 rfl (lv_at hl 0 rfl) ?_
  refine zz_getr (k' := 45) hx hb hown zw hB zF_X3_9 zdC_44 rfl rfl dX3_build_1 ?_
  refine zz_alen3 hx hb hB zdC_45 dX3_build_4 ?_
  refine lv_if_ne (tgt := 17) hx hb dX3_build_5 (by decide) (fun c5 => ?_) (fun c5 => ?_)
  · have h := h.1 c5
    exact zq_X3_build_17 X hA  h H locs ls hB (lv_sub hl [0, 1, 2] rfl)
  · have h := h.2 c5
    refine lv_aload_n hx hb dX3_build_8 rfl (lv_at hl 0 rfl) ?_
    refine lv_sipush (v := (14016 : Int32)) hx hb dX3_build_9 (by decide) ?_
    exact h.elim
theorem zc_X3_build (l : Launch) (D : va_G) (ca : Nat → ClassId) (a : Nat → Nat) (I : zz_I) (L : zz_L) (sz : Nat)  {P : zz_I → zz_L → Prop}  (h : zp_X3_build  P I L) : Met l yX3_build [.code yX3_build cX3_build 5 none] ({ frames := 2, cells := 0, slots := 0, locals := 52 } : Room) (zz_Pre D ca zz_dC [.ref (a 44), .ref (a 37), .ref (a 24)] a I L sz) (zz_Qv D ca zz_dC (zz_A ca zz_dC a I L sz) a P) 0 0 (zz_A ca zz_dC a I L sz) :=
  zz_start (by decide) (Nat.le_of_ble_eq_true rfl) (fun p e s m below meth c X hsz hA => zq_X3_build X hA  h)
def zp_X3_buildn_43b (K36 : Int32 → zz_I → zz_L → Prop) (K43 : Int32 → zz_I → zz_L → Prop) (P : zz_I → zz_L → Prop) (x3 : Int32) (x4 : Int32) (I : zz_I) (L : zz_L) : Prop := ((I 37 7) ≤ x4 → ∀ v76 : Int32, v76 = x3 + (-1 : Int32) → (K36 v76 I L)) ∧ (¬ (I 37 7) ≤ x4 → zp_X0_isOpen x3 x4 (fun r56 => (r56 = 0 → ∀ v70 : Int32, v70 = x4 + (1 : Int32) → (K43 v70 I L)) ∧ (¬ r56 = 0 → zp_X3_fillRow x3 x4 (fun I67 L67 => ∀ v70 : Int32, v70 = x4 + (1 : Int32) → (K43 v70 I67 L67)) I L)) I L)
set_option maxHeartbeats 4000000 in
set_option maxRecDepth 100000 in
theorem zq_X3_buildn_43b {p : Program} {l : Launch} {e : Env} {s : State} {m : MethodId} {args : Array Value} {below : List Frame} {meth : Method} {c : Code} {D : va_G} {ca : Nat → ClassId} {A : Nat → Prop} {a0 a : Nat → Nat} {K36 : Int32 → zz_I → zz_L → Prop} {K43 : Int32 → zz_I → zz_L → Prop} {P : zz_I → zz_L → Prop} {I : zz_I} {L : zz_L} {x3 : Int32} {x4 : Int32} (X : zz_X p s m meth c cX3_build RX3 none 5) (hA : ∀ q, s.heap.size ≤ q → A q) (ha : ∀ k, k ≠ 45 → a k = a0 k)  (hK36 : ∀ (y3 : Int32) (I8 : zz_I) (L8 : zz_L), K36 y3 I8 L8 → zz_Go p l e ({ frames := 2, cells := 1, slots := 14016, locals := 52 } : Room) s m args below meth c 1 14016 (MQ below (zz_QvN D ca zz_dC A a0 P) args s 1 14016 A) D ca zz_dC A 5 36 a [] [(0, .ref (a 44)), (1, .ref (a 37)), (3, .int y3)] I8 L8) (hK43 : ∀ (y4 : Int32) (I8 : zz_I) (L8 : zz_L), K43 y4 I8 L8 → zz_Go p l e ({ frames := 2, cells := 1, slots := 14016, locals := 52 } : Room) s m args below meth c 1 14016 (MQ below (zz_QvN D ca zz_dC A a0 P) args s 1 14016 A) D ca zz_dC A 5 43 a [] [(0, .ref (a 44)), (1, .ref (a 37)), (3, .int x3), (4, .int y4)] I8 L8) (h : zp_X3_buildn_43b K36 K43 P x3 x4 I L) : zz_Go p l e ({ frames := 2, cells := 1, slots := 14016, locals := 52 } : Room) s m args below meth c 1 14016 (MQ below (zz_QvN D ca zz_dC A a0 P) args s 1 14016 A) D ca zz_dC A 5 43 a [] [(0, .ref (a 44)), (1, .ref (a 37)), (3, .int x3), (4, .int x4)] I L := by
  obtain ⟨hx, hb, hml, hown, zw, hr, hlocks⟩ := id X
  intro H locs ls hB hl
  unfold zp_X3_buildn_43b at h
  refine lv_iload hx hb dX3_build_43 (lv_at hl 3 rfl) ?_
  refine lv_aload_n hx hb dX3_build_45 rfl (lv_at hl 1 rfl) ?_
  refine zz_geti hx hb hown zw hB zF_X3_40 zdC_37 rfl dX3_build_46 ?_
  refine lv_icmp_ge (tgt := 76) hx hb dX3_build_49 (by decide) (fun c49 => ?_) (fun c49 => ?_)
  · have h := h.1 c49
    obtain ⟨v76, ev76⟩ : ∃ z : Int32, z = x3 + (-1 : Int32) := ⟨_, rfl⟩
    have h := h v76 ev76
    refine lv_iinc (v := v76) (lv' := [(3, .int v76), (0, .ref (a 44)), (1, .ref (a 37)), (4, .int x4)]) hx hb dX3_build_76 hl (k := 2) rfl (by rw [ev76]; rfl) (by decide) rfl (fun ls hl => ?_)
    refine lv_goto (tgt := 36) hx hb dX3_build_79 (by decide) ?_
    exact hK36 _ _ _ h H locs ls hB (lv_sub hl [1, 2, 0] rfl)
  · have h := h.2 c49
    refine lv_aload_n hx hb dX3_build_52 rfl (lv_at hl 1 rfl) ?_
    refine lv_iload_n hx hb dX3_build_53 rfl (lv_at hl 2 rfl) ?_
    refine lv_iload hx hb dX3_build_54 (lv_at hl 3 rfl) ?_
    refine zz_goip hB hA (zz_runV (As := [.int x3, .int x4]) (rest := []) hx hb hml hown zw hB zM_X3_43 (zc_X0_isOpen l D ca a I L H.size h) zdC_37 rfl rfl hl.1 rfl (Nat.le_of_ble_eq_true rfl) rfl rfl ⟨Nat.le_of_ble_eq_true rfl, Nat.le_of_ble_eq_true rfl⟩ dX3_build_56 ⟨Nat.le_of_ble_eq_true rfl, Nat.le_of_ble_eq_true rfl⟩) (fun r56 H locs h hB => ?_)
    refine lv_if_eq (tgt := 70) hx hb dX3_build_59 (by decide) (fun c59 => ?_) (fun c59 => ?_)
    · have h := h.1 c59
      obtain ⟨v70, ev70⟩ : ∃ z : Int32, z = x4 + (1 : Int32) := ⟨_, rfl⟩
      have h := h v70 ev70
      refine lv_iinc (v := v70) (lv' := [(4, .int v70), (0, .ref (a 44)), (1, .ref (a 37)), (3, .int x3)]) hx hb dX3_build_70 hl (k := 3) rfl (by rw [ev70]; rfl) (by decide) rfl (fun ls hl => ?_)
      refine lv_goto (tgt := 43) hx hb dX3_build_73 (by decide) ?_
      exact hK43 _ _ _ h H locs ls hB (lv_sub hl [1, 2, 3, 0] rfl)
    · have h := h.2 c59
      refine lv_aload_n hx hb dX3_build_62 rfl (lv_at hl 0 rfl) ?_
      refine lv_aload_n hx hb dX3_build_63 rfl (lv_at hl 1 rfl) ?_
      refine lv_iload_n hx hb dX3_build_64 rfl (lv_at hl 2 rfl) ?_
      refine lv_iload hx hb dX3_build_65 (lv_at hl 3 rfl) ?_
      refine zz_gov hB hA (zz_runV (As := [.ref (a 37), .int x3, .int x4]) (rest := []) hx hb hml hown zw hB zM_X3_47 (zc_X3_fillRow l D ca a I L H.size h) zdC_44 rfl rfl hl.1 rfl (Nat.le_of_ble_eq_true rfl) rfl rfl ⟨Nat.le_of_ble_eq_true rfl, Nat.le_of_ble_eq_true rfl⟩ dX3_build_67 ⟨Nat.le_of_ble_eq_true rfl, Nat.le_of_ble_eq_true rfl⟩) (fun I67 L67 H locs h hB => ?_)
      obtain ⟨v70, ev70⟩ : ∃ z : Int32, z = x4 + (1 : Int32) := ⟨_, rfl⟩
      have h := h v70 ev70
      refine lv_iinc (v := v70) (lv' := [(4, .int v70), (0, .ref (a 44)), (1, .ref (a 37)), (3, .int x3)]) hx hb dX3_build_70 hl (k := 3) rfl (by rw [ev70]; rfl) (by decide) rfl (fun ls hl => ?_)
      refine lv_goto (tgt := 43) hx hb dX3_build_73 (by decide) ?_
      exact hK43 _ _ _ h H locs ls hB (lv_sub hl [1, 2, 3, 0] rfl)
def zp_X3_buildn_43 (K36 : Int32 → zz_I → zz_L → Prop) (P : zz_I → zz_L → Prop) (x3 : Int32) (x4 : Int32) (I : zz_I) (L : zz_L) : Prop := ∃ (Inv : Int32 → zz_I → zz_L → Prop) (μ : Int32 → zz_I → zz_L → Nat), Inv x4 I L ∧ ∀ (y4 : Int32) (I8 : zz_I) (L8 : zz_L), Inv y4 I8 L8 → zp_X3_buildn_43b K36 (fun z4 I7 L7 => Inv z4 I7 L7 ∧ μ z4 I7 L7 < μ y4 I8 L8) P x3 y4 I8 L8
set_option maxHeartbeats 4000000 in
set_option maxRecDepth 100000 in
theorem zq_X3_buildn_43 {p : Program} {l : Launch} {e : Env} {s : State} {m : MethodId} {args : Array Value} {below : List Frame} {meth : Method} {c : Code} {D : va_G} {ca : Nat → ClassId} {A : Nat → Prop} {a0 a : Nat → Nat} {K36 : Int32 → zz_I → zz_L → Prop} {P : zz_I → zz_L → Prop} {I : zz_I} {L : zz_L} {x3 : Int32} {x4 : Int32} (X : zz_X p s m meth c cX3_build RX3 none 5) (hA : ∀ q, s.heap.size ≤ q → A q) (ha : ∀ k, k ≠ 45 → a k = a0 k)  (hK36 : ∀ (y3 : Int32) (I8 : zz_I) (L8 : zz_L), K36 y3 I8 L8 → zz_Go p l e ({ frames := 2, cells := 1, slots := 14016, locals := 52 } : Room) s m args below meth c 1 14016 (MQ below (zz_QvN D ca zz_dC A a0 P) args s 1 14016 A) D ca zz_dC A 5 36 a [] [(0, .ref (a 44)), (1, .ref (a 37)), (3, .int y3)] I8 L8) (h : zp_X3_buildn_43 K36 P x3 x4 I L) : zz_Go p l e ({ frames := 2, cells := 1, slots := 14016, locals := 52 } : Room) s m args below meth c 1 14016 (MQ below (zz_QvN D ca zz_dC A a0 P) args s 1 14016 A) D ca zz_dC A 5 43 a [] [(0, .ref (a 44)), (1, .ref (a 37)), (3, .int x3), (4, .int x4)] I L := by
  unfold zp_X3_buildn_43 at h
  obtain ⟨Inv, μ, hv0, hs⟩ := h
  have key : ∀ (n9 : Nat) (y4 : Int32) (I8 : zz_I) (L8 : zz_L), μ y4 I8 L8 < n9 → Inv y4 I8 L8 → zz_Go p l e ({ frames := 2, cells := 1, slots := 14016, locals := 52 } : Room) s m args below meth c 1 14016 (MQ below (zz_QvN D ca zz_dC A a0 P) args s 1 14016 A) D ca zz_dC A 5 43 a [] [(0, .ref (a 44)), (1, .ref (a 37)), (3, .int x3), (4, .int y4)] I8 L8 := by
    intro n9
    induction n9 with
    | zero => intro y4 I8 L8 hn; exact absurd hn (Nat.not_lt_zero _)
    | succ n9 ih =>
      intro y4 I8 L8 hn hi
      exact zq_X3_buildn_43b (K43 := (fun z4 I7 L7 => Inv z4 I7 L7 ∧ μ z4 I7 L7 < μ y4 I8 L8)) X hA ha hK36 (fun z4 I7 L7 hz => ih z4 I7 L7 (Nat.lt_of_lt_of_le hz.2 (Nat.le_of_lt_succ hn)) hz.1) (hs y4 I8 L8 hi)
  exact key _ x4 I L (Nat.lt_succ_self _) hv0
def zp_X3_buildn_36b (K36 : Int32 → zz_I → zz_L → Prop) (P : zz_I → zz_L → Prop) (x3 : Int32) (I : zz_I) (L : zz_L) : Prop := (x3 < 0 → P I L) ∧ (¬ x3 < 0 → zp_X3_buildn_43 K36 P x3 (0 : Int32) I L)
set_option maxHeartbeats 4000000 in
set_option maxRecDepth 100000 in
theorem zq_X3_buildn_36b {p : Program} {l : Launch} {e : Env} {s : State} {m : MethodId} {args : Array Value} {below : List Frame} {meth : Method} {c : Code} {D : va_G} {ca : Nat → ClassId} {A : Nat → Prop} {a0 a : Nat → Nat} {K36 : Int32 → zz_I → zz_L → Prop} {P : zz_I → zz_L → Prop} {I : zz_I} {L : zz_L} {x3 : Int32} (X : zz_X p s m meth c cX3_build RX3 none 5) (hA : ∀ q, s.heap.size ≤ q → A q) (ha : ∀ k, k ≠ 45 → a k = a0 k)  (hK36 : ∀ (y3 : Int32) (I8 : zz_I) (L8 : zz_L), K36 y3 I8 L8 → zz_Go p l e ({ frames := 2, cells := 1, slots := 14016, locals := 52 } : Room) s m args below meth c 1 14016 (MQ below (zz_QvN D ca zz_dC A a0 P) args s 1 14016 A) D ca zz_dC A 5 36 a [] [(0, .ref (a 44)), (1, .ref (a 37)), (3, .int y3)] I8 L8) (h : zp_X3_buildn_36b K36 P x3 I L) : zz_Go p l e ({ frames := 2, cells := 1, slots := 14016, locals := 52 } : Room) s m args below meth c 1 14016 (MQ below (zz_QvN D ca zz_dC A a0 P) args s 1 14016 A) D ca zz_dC A 5 36 a [] [(0, .ref (a 44)), (1, .ref (a 37)), (3, .int x3)] I L := by
  obtain ⟨hx, hb, hml, hown, zw, hr, hlocks⟩ := id X
  intro H locs ls hB hl
  unfold zp_X3_buildn_36b at h
  refine lv_iload_n hx hb dX3_build_36 rfl (lv_at hl 2 rfl) ?_
  refine lv_if_lt (tgt := 82) hx hb dX3_build_37 (by decide) (fun c37 => ?_) (fun c37 => ?_)
  · have h := h.1 c37
    exact zz_vretN hx hb hr hlocks ha hB h dX3_build_82
  · have h := h.2 c37
    refine lv_iconst (v := (0 : Int32)) hx hb dX3_build_40 (by decide) ?_
    refine lv_istore (lv' := [(4, .int (0 : Int32)), (0, .ref (a 44)), (1, .ref (a 37)), (3, .int x3)]) hx hb dX3_build_41 hl (by decide) rfl (fun ls hl => ?_)
    exact zq_X3_buildn_43 X hA ha hK36 h H locs ls hB (lv_sub hl [1, 2, 3, 0] rfl)
def zp_X3_buildn_36  (P : zz_I → zz_L → Prop) (x3 : Int32) (I : zz_I) (L : zz_L) : Prop := ∃ (Inv : Int32 → zz_I → zz_L → Prop) (μ : Int32 → zz_I → zz_L → Nat), Inv x3 I L ∧ ∀ (y3 : Int32) (I8 : zz_I) (L8 : zz_L), Inv y3 I8 L8 → zp_X3_buildn_36b  (fun z3 I7 L7 => Inv z3 I7 L7 ∧ μ z3 I7 L7 < μ y3 I8 L8) P y3 I8 L8
set_option maxHeartbeats 4000000 in
set_option maxRecDepth 100000 in
theorem zq_X3_buildn_36 {p : Program} {l : Launch} {e : Env} {s : State} {m : MethodId} {args : Array Value} {below : List Frame} {meth : Method} {c : Code} {D : va_G} {ca : Nat → ClassId} {A : Nat → Prop} {a0 a : Nat → Nat}  {P : zz_I → zz_L → Prop} {I : zz_I} {L : zz_L} {x3 : Int32} (X : zz_X p s m meth c cX3_build RX3 none 5) (hA : ∀ q, s.heap.size ≤ q → A q) (ha : ∀ k, k ≠ 45 → a k = a0 k)   (h : zp_X3_buildn_36  P x3 I L) : zz_Go p l e ({ frames := 2, cells := 1, slots := 14016, locals := 52 } : Room) s m args below meth c 1 14016 (MQ below (zz_QvN D ca zz_dC A a0 P) args s 1 14016 A) D ca zz_dC A 5 36 a [] [(0, .ref (a 44)), (1, .ref (a 37)), (3, .int x3)] I L := by
  unfold zp_X3_buildn_36 at h
  obtain ⟨Inv, μ, hv0, hs⟩ := h
  have key : ∀ (n9 : Nat) (y3 : Int32) (I8 : zz_I) (L8 : zz_L), μ y3 I8 L8 < n9 → Inv y3 I8 L8 → zz_Go p l e ({ frames := 2, cells := 1, slots := 14016, locals := 52 } : Room) s m args below meth c 1 14016 (MQ below (zz_QvN D ca zz_dC A a0 P) args s 1 14016 A) D ca zz_dC A 5 36 a [] [(0, .ref (a 44)), (1, .ref (a 37)), (3, .int y3)] I8 L8 := by
    intro n9
    induction n9 with
    | zero => intro y3 I8 L8 hn; exact absurd hn (Nat.not_lt_zero _)
    | succ n9 ih =>
      intro y3 I8 L8 hn hi
      exact zq_X3_buildn_36b (K36 := (fun z3 I7 L7 => Inv z3 I7 L7 ∧ μ z3 I7 L7 < μ y3 I8 L8)) X hA ha  (fun z3 I7 L7 hz => ih z3 I7 L7 (Nat.lt_of_lt_of_le hz.2 (Nat.le_of_lt_succ hn)) hz.1) (hs y3 I8 L8 hi)
  exact key _ x3 I L (Nat.lt_succ_self _) hv0
def zp_X3_buildn_17  (P : zz_I → zz_L → Prop)  (I : zz_I) (L : zz_L) : Prop := ∀ I26 : zz_I, I26 = zz_cp I 24 46 8 → (∀ v35 : Int32, v35 = (I26 37 6) - (1 : Int32) → (zp_X3_buildn_36 P v35 I26 L))
set_option maxHeartbeats 4000000 in
set_option maxRecDepth 100000 in
theorem zq_X3_buildn_17 {p : Program} {l : Launch} {e : Env} {s : State} {m : MethodId} {args : Array Value} {below : List Frame} {meth : Method} {c : Code} {D : va_G} {ca : Nat → ClassId} {A : Nat → Prop} {a0 a : Nat → Nat}  {P : zz_I → zz_L → Prop} {I : zz_I} {L : zz_L}  (X : zz_X p s m meth c cX3_build RX3 none 5) (hA : ∀ q, s.heap.size ≤ q → A q) (ha : ∀ k, k ≠ 45 → a k = a0 k)   (h : zp_X3_buildn_17  P  I L) : zz_Go p l e ({ frames := 2, cells := 1, slots := 14016, locals := 52 } : Room) s m args below meth c 1 14016 (MQ below (zz_QvN D ca zz_dC A a0 P) args s 1 14016 A) D ca zz_dC A 5 17 a [] [(0, .ref (a 44)), (1, .ref (a 37)), (2, .ref (a 24))] I L := by
  obtain ⟨hx, hb, hml, hown, zw, hr, hlocks⟩ := id X
  intro H locs ls hB hl
  unfold zp_X3_buildn_17 at h
  refine lv_aload_n hx hb dX3_build_17 rfl (lv_at hl 2 rfl) ?_
  refine lv_iconst (v := (0 : Int32)) hx hb dX3_build_18 (by decide) ?_
  refine lv_aload_n hx hb dX3_build_19 rfl (lv_at hl 0 rfl) ?_
  refine zz_getr (k' := 46) hx hb hown zw hB zF_X3_15 zdC_44 rfl rfl dX3_build_20 ?_
  refine lv_iconst (v := (0 : Int32)) hx hb dX3_build_23 (by decide) ?_
  refine lv_bipush (v := (8 : Int32)) hx hb dX3_build_24 (by decide) ?_
  refine zz_copy (nn := 8) hx hb (hml.trans hl.1.symm) hown zw zk_X3_acp hB zdC_24 zdC_46 rfl (Nat.le_of_ble_eq_true rfl) (Nat.le_of_ble_eq_true rfl) (Nat.le_of_ble_eq_true rfl) (Nat.le_of_ble_eq_true rfl) (Nat.le_of_ble_eq_true rfl) dX3_build_26 (fun H locs hB => ?_)
  obtain ⟨I26, eI26⟩ : ∃ z : zz_I, z = zz_cp I 24 46 8 := ⟨_, rfl⟩
  rw [← eI26] at hB
  have h := h I26 eI26
  refine lv_aload_n hx hb dX3_build_29 rfl (lv_at hl 1 rfl) ?_
  refine zz_geti hx hb hown zw hB zF_X3_35 zdC_37 rfl dX3_build_30 ?_
  refine lv_iconst (v := (1 : Int32)) hx hb dX3_build_33 (by decide) ?_
  refine lv_isub hx hb dX3_build_34 ?_
  refine lv_topi (fun v35 ev35 => ?_)
  have h := h v35 ev35
  refine lv_istore_n (lv' := [(3, .int v35), (0, .ref (a 44)), (1, .ref (a 37)), (2, .ref (a 24))]) hx hb dX3_build_35 rfl hl (by decide) rfl (fun ls hl => ?_)
  exact zq_X3_buildn_36 X hA ha h H locs ls hB (lv_sub hl [1, 2, 0] rfl)
def zp_X3_buildn  (P : zz_I → zz_L → Prop) (I : zz_I) (L : zz_L) : Prop := (¬ (nI (I 45 0).toNatClampNeg) = 0 → zp_X3_buildn_17 P I L) ∧ ((nI (I 45 0).toNatClampNeg) = 0 → ∀ (I12 : zz_I) (L12 : zz_L), I12 = zz_up I 45 0 14016 → L12 = zz_z45 L → (zp_X3_buildn_17 P I12 L12))
set_option maxHeartbeats 4000000 in
set_option maxRecDepth 100000 in
theorem zq_X3_buildn {p : Program} {l : Launch} {e : Env} {s : State} {m : MethodId} {args : Array Value} {below : List Frame} {meth : Method} {c : Code} {D : va_G} {ca : Nat → ClassId} {A : Nat → Prop} {a0 a : Nat → Nat}  {P : zz_I → zz_L → Prop} {I : zz_I} {L : zz_L}  (X : zz_X p s m meth c cX3_build RX3 none 5) (hA : ∀ q, s.heap.size ≤ q → A q) (ha : ∀ k, k ≠ 45 → a k = a0 k)   (h : zp_X3_buildn  P I L) : zz_Go p l e ({ frames := 2, cells := 1, slots := 14016, locals := 52 } : Room) s m args below meth c 0 0 (MQ below (zz_QvN D ca zz_dC A a0 P) args s 1 14016 A) D ca zz_dC A 5 0 a [] [(0, .ref (a 44)), (1, .ref (a 37)), (2, .ref (a 24))] I L := by
  obtain ⟨hx, hb, hml, hown, zw, hr, hlocks⟩ := id X
  intro H locs ls hB hl
  unfold zp_X3_buildn at h
  refine lv_aload_n hx hb dX3_build_0 rfl (lv_at hl 0 rfl) ?_
  refine zz_getr (k' := 45) hx hb hown zw hB zF_X3_9 zdC_44 rfl rfl dX3_build_1 ?_
  refine zz_alen3 hx hb hB zdC_45 dX3_build_4 ?_
  refine lv_if_ne (tgt := 17) hx hb dX3_build_5 (by decide) (fun c5 => ?_) (fun c5 => ?_)
  · have h := h.1 c5
    refine W.widen (k := 1) (n := 14016) (Nat.le_of_ble_eq_true rfl) (Nat.le_of_ble_eq_true rfl) ?_
    exact zq_X3_buildn_17 X hA ha h H locs ls hB (lv_sub hl [0, 1, 2] rfl)
  · have h := h.2 c5
    refine lv_aload_n hx hb dX3_build_8 rfl (lv_at hl 0 rfl) ?_
    refine lv_sipush (v := (14016 : Int32)) hx hb dX3_build_9 (by decide) ?_
    refine zz_newends hx hb hown zw hB hA rfl dX3_build_12 dX3_build_14 (Nat.le_of_ble_eq_true rfl) (Nat.le_of_ble_eq_true rfl) (fun a1 H locs ha1 hB => ?_)
    have ha : ∀ k, k ≠ 45 → a1 k = a0 k := fun k hk => (ha1 k hk).trans (ha k hk)
    obtain ⟨I12, eI12⟩ : ∃ z : zz_I, z = zz_up I 45 0 14016 := ⟨_, rfl⟩
    obtain ⟨L12, eL12⟩ : ∃ z : zz_L, z = zz_z45 L := ⟨_, rfl⟩
    rw [← eI12, ← eL12] at hB
    have h := h I12 L12 eI12 eL12
    have hl : lv_has ls 5 [(0, .ref (a1 44)), (1, .ref (a1 37)), (2, .ref (a1 24))] := by
      rw [ha1 24 (by decide), ha1 37 (by decide), ha1 44 (by decide)]; exact hl
    exact zq_X3_buildn_17 X hA ha h H locs ls hB (lv_sub hl [0, 1, 2] rfl)
theorem zc_X3_buildn (l : Launch) (D : va_G) (ca : Nat → ClassId) (a : Nat → Nat) (I : zz_I) (L : zz_L) (sz : Nat)  {P : zz_I → zz_L → Prop}  (h : zp_X3_buildn  P I L) : Met l yX3_build [.code yX3_build cX3_build 5 none] ({ frames := 2, cells := 1, slots := 14016, locals := 52 } : Room) (zz_Pre D ca zz_dC [.ref (a 44), .ref (a 37), .ref (a 24)] a I L sz) (zz_QvN D ca zz_dC (zz_A ca zz_dC a I L sz) a P) 1 14016 (zz_A ca zz_dC a I L sz) :=
  zz_start (by decide) (Nat.le_of_ble_eq_true rfl) (fun p e s m below meth c X hsz hA => zq_X3_buildn X hA (fun _ _ => rfl) h)
def zp_X7_rankn (x1 : Int64) (x3 : Int32) (P : Int32 → zz_I → zz_L → Prop) (I : zz_I) (L : zz_L) : Prop := ((-2 : Int32) ≤ x3 → zp_X0_countAll 21 (fun r21 I21 L21 => (x1 < (0 : Int64) → P (-9 : Int32) I21 L21) ∧ (¬ x1 < (0 : Int64) → (x1 < r21 → zp_X3_buildn  (fun I57 L57 => zp_X3_find x1 (fun I69 L69 => (¬ x3 = (-1 : Int32) → (¬ x3 = (-2 : Int32) → ((I69 44 3) ≤ x3 → P (-9 : Int32) I69 L69) ∧ (¬ (I69 44 3) ≤ x3 → vp_in x3 8 ∧ (P (I69 47 x3.toNatClampNeg) I69 L69))) ∧ (x3 = (-2 : Int32) → P (I69 44 3) I69 L69)) ∧ (x3 = (-1 : Int32) → P (I69 44 4) I69 L69)) I57 L57) I21 L21) ∧ (¬ x1 < r21 → P (-9 : Int32) I21 L21))) I L) ∧ (¬ (-2 : Int32) ≤ x3 → P (-2 : Int32) I L)
set_option maxHeartbeats 4000000 in
set_option maxRecDepth 100000 in
theorem zq_X7_rankn {p : Program} {l : Launch} {e : Env} {s : State} {m : MethodId} {args : Array Value} {below : List Frame} {meth : Method} {c : Code} {D : va_G} {ca : Nat → ClassId} {A : Nat → Prop} {a0 a : Nat → Nat}  {P : Int32 → zz_I → zz_L → Prop} {I : zz_I} {L : zz_L} {x1 : Int64} {x3 : Int32} (X : zz_X p s m meth c cX7_rank RX7 (some .int) 6) (hA : ∀ q, s.heap.size ≤ q → A q) (ha : ∀ k, k ≠ 45 → a k = a0 k)   (h : zp_X7_rankn x1 x3 P I L) : zz_Go p l e ({ frames := 4, cells := 1, slots := 14016, locals := 109 } : Room) s m args below meth c 0 0 (MQ below (zz_QiN D ca zz_dC A a0 P) args s 1 14016 A) D ca zz_dC A 6 0 a [] [(0, .ref (a 0)), (1, .long x1), (3, .int x3)] I L := by
  obtain ⟨hx, hb, hml, hown, zw, hr, hlocks⟩ := id X
  intro H locs ls hB hl
  unfold zp_X7_rankn at h
  refine lv_iload_n hx hb dX7_rank_0 rfl (lv_at hl 2 rfl) ?_
  refine lv_bipush (v := (-2 : Int32)) hx hb dX7_rank_1 (by decide) ?_
  refine lv_icmp_ge (tgt := 9) hx hb dX7_rank_3 (by decide) (fun c3 => ?_) (fun c3 => ?_)
  · have h := h.1 c3
    refine lv_aload_n hx hb dX7_rank_9 rfl (lv_at hl 0 rfl) ?_
    refine zz_getr (k' := 37) hx hb hown zw hB zF_X7_50 zdC_0 rfl rfl dX7_rank_10 ?_
    refine lv_aload_n hx hb dX7_rank_13 rfl (lv_at hl 0 rfl) ?_
    refine zz_getr (k' := 14) hx hb hown zw hB zF_X7_19 zdC_0 rfl rfl dX7_rank_14 ?_
    refine lv_aload_n hx hb dX7_rank_17 rfl (lv_at hl 0 rfl) ?_
    refine zz_getr (k' := 21) hx hb hown zw hB zF_X7_26 zdC_0 rfl rfl dX7_rank_18 ?_
    refine zz_gol hB hA (zz_runV (As := [.ref (a 14), .ref (a 21)]) (rest := []) hx hb hml hown zw hB zM_X7_174 (zc_X0_countAll l D ca a I L H.size zz_isT_21 h) zdC_37 rfl rfl hl.1 rfl (Nat.le_of_ble_eq_true rfl) rfl rfl ⟨Nat.le_of_ble_eq_true rfl, Nat.le_of_ble_eq_true rfl⟩ dX7_rank_21 ⟨Nat.le_of_ble_eq_true rfl, Nat.le_of_ble_eq_true rfl⟩) (fun r21 I21 L21 H locs h hB => ?_)
    refine lv_lstore (lv' := [(4, .long r21), (0, .ref (a 0)), (1, .long x1), (3, .int x3)]) hx hb dX7_rank_24 hl (by decide) rfl (fun ls hl => ?_)
    refine lv_lload_n hx hb dX7_rank_26 rfl (lv_at hl 2 rfl) ?_
    refine lv_lconst (v := (0 : Int64)) hx hb dX7_rank_27 (by decide) ?_
    refine zz_l_lt (tgt := 39) hx hb dX7_rank_28 dX7_rank_29 (by decide) (fun c28 => ?_) (fun c28 => ?_)
    · have h := h.1 c28
      refine lv_bipush (v := (-9 : Int32)) hx hb dX7_rank_39 (by decide) ?_
      refine W.widen (k := 1) (n := 14016) (Nat.le_of_ble_eq_true rfl) (Nat.le_of_ble_eq_true rfl) ?_
      exact zz_iretN hx hb hr hlocks ha hB h dX7_rank_41
    · have h := h.2 c28
      refine lv_lload_n hx hb dX7_rank_32 rfl (lv_at hl 2 rfl) ?_
      refine lv_lload hx hb dX7_rank_33 (lv_at hl 0 rfl) ?_
      refine zz_l_lt (tgt := 42) hx hb dX7_rank_35 dX7_rank_36 (by decide) (fun c35 => ?_) (fun c35 => ?_)
      · have h := h.1 c35
        refine lv_aload_n hx hb dX7_rank_42 rfl (lv_at hl 1 rfl) ?_
        refine zz_getr (k' := 44) hx hb hown zw hB zF_X7_57 zdC_0 rfl rfl dX7_rank_43 ?_
        refine lv_aload_n hx hb dX7_rank_46 rfl (lv_at hl 1 rfl) ?_
        refine zz_getr (k' := 37) hx hb hown zw hB zF_X7_50 zdC_0 rfl rfl dX7_rank_47 ?_
        refine lv_aload_n hx hb dX7_rank_50 rfl (lv_at hl 1 rfl) ?_
        refine zz_getr (k' := 21) hx hb hown zw hB zF_X7_26 zdC_0 rfl rfl dX7_rank_51 ?_
        refine zz_getr (k' := 24) hx hb hown zw hB zF_X7_119 zdC_21 rfl rfl dX7_rank_54 ?_
        refine zz_govN hB hA (zz_runV (As := [.ref (a 37), .ref (a 24)]) (rest := []) hx hb hml hown zw hB zM_X7_178 (zc_X3_buildn l D ca a I21 L21 H.size h) zdC_44 rfl rfl hl.1 rfl (Nat.le_of_ble_eq_true rfl) rfl rfl ⟨Nat.le_of_ble_eq_true rfl, Nat.le_of_ble_eq_true rfl⟩ dX7_rank_57 ⟨Nat.le_of_ble_eq_true rfl, Nat.le_of_ble_eq_true rfl⟩) (fun a1 I57 L57 H locs ha1 h hB => ?_)
        have ha : ∀ k, k ≠ 45 → a1 k = a0 k := fun k hk => (ha1 k hk).trans (ha k hk)
        have hl : lv_has ls 6 [(4, .long r21), (0, .ref (a1 0)), (1, .long x1), (3, .int x3)] := by
          rw [ha1 0 (by decide)]; exact hl
        refine lv_aload_n hx hb dX7_rank_60 rfl (lv_at hl 1 rfl) ?_
        refine zz_getr (k' := 44) hx hb hown zw hB zF_X7_57 zdC_0 rfl rfl dX7_rank_61 ?_
        refine lv_aload_n hx hb dX7_rank_64 rfl (lv_at hl 1 rfl) ?_
        refine zz_getr (k' := 37) hx hb hown zw hB zF_X7_50 zdC_0 rfl rfl dX7_rank_65 ?_
        refine lv_lload_n hx hb dX7_rank_68 rfl (lv_at hl 2 rfl) ?_
        refine zz_gov hB hA (zz_runV (As := [.ref (a1 37), .long x1]) (rest := []) hx hb hml hown zw hB zM_X7_182 (zc_X3_find l D ca a1 I57 L57 H.size h) zdC_44 rfl rfl hl.1 rfl (Nat.le_of_ble_eq_true rfl) rfl rfl ⟨Nat.le_of_ble_eq_true rfl, Nat.le_of_ble_eq_true rfl⟩ dX7_rank_69 ⟨Nat.le_of_ble_eq_true rfl, Nat.le_of_ble_eq_true rfl⟩) (fun I69 L69 H locs h hB => ?_)
        refine lv_iload_n hx hb dX7_rank_72 rfl (lv_at hl 3 rfl) ?_
        refine lv_iconst (v := (-1 : Int32)) hx hb dX7_rank_73 (by decide) ?_
        refine lv_icmp_ne (tgt := 85) hx hb dX7_rank_74 (by decide) (fun c74 => ?_) (fun c74 => ?_)
        · have h := h.1 c74
          refine lv_iload_n hx hb dX7_rank_85 rfl (lv_at hl 3 rfl) ?_
          refine lv_bipush (v := (-2 : Int32)) hx hb dX7_rank_86 (by decide) ?_
          refine lv_icmp_ne (tgt := 99) hx hb dX7_rank_88 (by decide) (fun c88 => ?_) (fun c88 => ?_)
          · have h := h.1 c88
            refine lv_iload_n hx hb dX7_rank_99 rfl (lv_at hl 3 rfl) ?_
            refine lv_aload_n hx hb dX7_rank_100 rfl (lv_at hl 1 rfl) ?_
            refine zz_getr (k' := 44) hx hb hown zw hB zF_X7_57 zdC_0 rfl rfl dX7_rank_101 ?_
            refine zz_geti hx hb hown zw hB zF_X7_189 zdC_44 rfl dX7_rank_104 ?_
            refine lv_icmp_ge (tgt := 122) hx hb dX7_rank_107 (by decide) (fun c107 => ?_) (fun c107 => ?_)
            · have h := h.1 c107
              refine lv_bipush (v := (-9 : Int32)) hx hb dX7_rank_122 (by decide) ?_
              exact zz_iretN hx hb hr hlocks ha hB h dX7_rank_124
            · have h := h.2 c107
              refine lv_aload_n hx hb dX7_rank_110 rfl (lv_at hl 1 rfl) ?_
              refine zz_getr (k' := 44) hx hb hown zw hB zF_X7_57 zdC_0 rfl rfl dX7_rank_111 ?_
              refine zz_getr (k' := 47) hx hb hown zw hB zF_X7_190 zdC_44 rfl rfl dX7_rank_114 ?_
              refine lv_iload_n hx hb dX7_rank_117 rfl (lv_at hl 3 rfl) ?_
              obtain ⟨hi118, h⟩ := h
              refine zz_iald hx hb hB zdC_47 hi118 dX7_rank_118 ?_
              refine lv_goto (tgt := 124) hx hb dX7_rank_119 (by decide) ?_
              exact zz_iretN hx hb hr hlocks ha hB h dX7_rank_124
          · have h := h.2 c88
            refine lv_aload_n hx hb dX7_rank_91 rfl (lv_at hl 1 rfl) ?_
            refine zz_getr (k' := 44) hx hb hown zw hB zF_X7_57 zdC_0 rfl rfl dX7_rank_92 ?_
            refine zz_geti hx hb hown zw hB zF_X7_189 zdC_44 rfl dX7_rank_95 ?_
            exact zz_iretN hx hb hr hlocks ha hB h dX7_rank_98
        · have h := h.2 c74
          refine lv_aload_n hx hb dX7_rank_77 rfl (lv_at hl 1 rfl) ?_
          refine zz_getr (k' := 44) hx hb hown zw hB zF_X7_57 zdC_0 rfl rfl dX7_rank_78 ?_
          refine zz_geti hx hb hown zw hB zF_X7_186 zdC_44 rfl dX7_rank_81 ?_
          exact zz_iretN hx hb hr hlocks ha hB h dX7_rank_84
      · have h := h.2 c35
        refine lv_bipush (v := (-9 : Int32)) hx hb dX7_rank_39 (by decide) ?_
        refine W.widen (k := 1) (n := 14016) (Nat.le_of_ble_eq_true rfl) (Nat.le_of_ble_eq_true rfl) ?_
        exact zz_iretN hx hb hr hlocks ha hB h dX7_rank_41
  · have h := h.2 c3
    refine lv_bipush (v := (-2 : Int32)) hx hb dX7_rank_6 (by decide) ?_
    refine W.widen (k := 1) (n := 14016) (Nat.le_of_ble_eq_true rfl) (Nat.le_of_ble_eq_true rfl) ?_
    exact zz_iretN hx hb hr hlocks ha hB h dX7_rank_8
theorem zc_X7_rankn (l : Launch) (D : va_G) (ca : Nat → ClassId) (a : Nat → Nat) (I : zz_I) (L : zz_L) (sz : Nat) {x1 : Int64} {x3 : Int32} {P : Int32 → zz_I → zz_L → Prop}  (h : zp_X7_rankn x1 x3 P I L) : Met l yX7_rank [.code yX7_rank cX7_rank 6 (some .int)] ({ frames := 4, cells := 1, slots := 14016, locals := 109 } : Room) (zz_Pre D ca zz_dC [.ref (a 0), .long x1, .int x3] a I L sz) (zz_QiN D ca zz_dC (zz_A ca zz_dC a I L sz) a P) 1 14016 (zz_A ca zz_dC a I L sz) :=
  zz_start (by decide) (Nat.le_of_ble_eq_true rfl) (fun p e s m below meth c X hsz hA => zq_X7_rankn X hA (fun _ _ => rfl) h)
def zp_X7_whichn_13  (P : Int64 → zz_I → zz_L → Prop) (x1 : Int32) (I : zz_I) (L : zz_L) : Prop := zp_X0_countSelected 21 (fun r29 I29 L29 => (¬ x1 = 0 → (¬ r29 = (0 : Int64) → zp_X3_buildn  (fun I64 L64 => zp_X3_find (0 : Int64) (fun I76 L76 => zp_X0_countAll 21 (fun r91 I91 L91 => zp_X3_build  (fun I110 L110 => zp_X3_rankOfPath  (fun r121 => P r121 I110 L110) I110 L110) I91 L91) I76 L76) I64 L64) I29 L29) ∧ (r29 = (0 : Int64) → P (-9 : Int64) I29 L29)) ∧ (x1 = 0 → P r29 I29 L29)) I L
set_option maxHeartbeats 4000000 in
set_option maxRecDepth 100000 in
theorem zq_X7_whichn_13 {p : Program} {l : Launch} {e : Env} {s : State} {m : MethodId} {args : Array Value} {below : List Frame} {meth : Method} {c : Code} {D : va_G} {ca : Nat → ClassId} {A : Nat → Prop} {a0 a : Nat → Nat}  {P : Int64 → zz_I → zz_L → Prop} {I : zz_I} {L : zz_L} {x1 : Int32} (X : zz_X p s m meth c cX7_which RX7 (some .long) 4) (hA : ∀ q, s.heap.size ≤ q → A q) (ha : ∀ k, k ≠ 45 → a k = a0 k)   (h : zp_X7_whichn_13  P x1 I L) : zz_Go p l e ({ frames := 4, cells := 1, slots := 14016, locals := 109 } : Room) s m args below meth c 0 0 (MQ below (zz_QlN D ca zz_dC A a0 P) args s 1 14016 A) D ca zz_dC A 4 13 a [] [(0, .ref (a 0)), (1, .int x1)] I L := by
  obtain ⟨hx, hb, hml, hown, zw, hr, hlocks⟩ := id X
  intro H locs ls hB hl
  unfold zp_X7_whichn_13 at h
  refine lv_aload_n hx hb dX7_which_13 rfl (lv_at hl 0 rfl) ?_
  refine zz_getr (k' := 37) hx hb hown zw hB zF_X7_50 zdC_0 rfl rfl dX7_which_14 ?_
  refine lv_aload_n hx hb dX7_which_17 rfl (lv_at hl 0 rfl) ?_
  refine zz_getr (k' := 14) hx hb hown zw hB zF_X7_19 zdC_0 rfl rfl dX7_which_18 ?_
  refine lv_aload_n hx hb dX7_which_21 rfl (lv_at hl 0 rfl) ?_
  refine zz_getr (k' := 21) hx hb hown zw hB zF_X7_26 zdC_0 rfl rfl dX7_which_22 ?_
  refine lv_aload_n hx hb dX7_which_25 rfl (lv_at hl 0 rfl) ?_
  refine zz_getr (k' := 33) hx hb hown zw hB zF_X7_43 zdC_0 rfl rfl dX7_which_26 ?_
  refine zz_gol hB hA (zz_runV (As := [.ref (a 14), .ref (a 21), .ref (a 33)]) (rest := []) hx hb hml hown zw hB zM_X7_226 (zc_X0_countSelected l D ca a I L H.size zz_isT_21 h) zdC_37 rfl rfl hl.1 rfl (Nat.le_of_ble_eq_true rfl) rfl rfl ⟨Nat.le_of_ble_eq_true rfl, Nat.le_of_ble_eq_true rfl⟩ dX7_which_29 ⟨Nat.le_of_ble_eq_true rfl, Nat.le_of_ble_eq_true rfl⟩) (fun r29 I29 L29 H locs h hB => ?_)
  refine lv_lstore_n (lv' := [(2, .long r29), (0, .ref (a 0)), (1, .int x1)]) hx hb dX7_which_32 rfl hl (by decide) rfl (fun ls hl => ?_)
  refine lv_iload_n hx hb dX7_which_33 rfl (lv_at hl 2 rfl) ?_
  refine lv_if_ne (tgt := 39) hx hb dX7_which_34 (by decide) (fun c34 => ?_) (fun c34 => ?_)
  · have h := h.1 c34
    refine lv_lload_n hx hb dX7_which_39 rfl (lv_at hl 0 rfl) ?_
    refine lv_lconst (v := (0 : Int64)) hx hb dX7_which_40 (by decide) ?_
    refine zz_l_ne (tgt := 49) hx hb dX7_which_41 dX7_which_42 (by decide) (fun c41 => ?_) (fun c41 => ?_)
    · have h := h.1 c41
      refine lv_aload_n hx hb dX7_which_49 rfl (lv_at hl 1 rfl) ?_
      refine zz_getr (k' := 44) hx hb hown zw hB zF_X7_57 zdC_0 rfl rfl dX7_which_50 ?_
      refine lv_aload_n hx hb dX7_which_53 rfl (lv_at hl 1 rfl) ?_
      refine zz_getr (k' := 37) hx hb hown zw hB zF_X7_50 zdC_0 rfl rfl dX7_which_54 ?_
      refine lv_aload_n hx hb dX7_which_57 rfl (lv_at hl 1 rfl) ?_
      refine zz_getr (k' := 21) hx hb hown zw hB zF_X7_26 zdC_0 rfl rfl dX7_which_58 ?_
      refine zz_getr (k' := 24) hx hb hown zw hB zF_X7_119 zdC_21 rfl rfl dX7_which_61 ?_
      refine zz_govN hB hA (zz_runV (As := [.ref (a 37), .ref (a 24)]) (rest := []) hx hb hml hown zw hB zM_X7_178 (zc_X3_buildn l D ca a I29 L29 H.size h) zdC_44 rfl rfl hl.1 rfl (Nat.le_of_ble_eq_true rfl) rfl rfl ⟨Nat.le_of_ble_eq_true rfl, Nat.le_of_ble_eq_true rfl⟩ dX7_which_64 ⟨Nat.le_of_ble_eq_true rfl, Nat.le_of_ble_eq_true rfl⟩) (fun a1 I64 L64 H locs ha1 h hB => ?_)
      have ha : ∀ k, k ≠ 45 → a1 k = a0 k := fun k hk => (ha1 k hk).trans (ha k hk)
      have hl : lv_has ls 4 [(2, .long r29), (0, .ref (a1 0)), (1, .int x1)] := by
        rw [ha1 0 (by decide)]; exact hl
      refine lv_aload_n hx hb dX7_which_67 rfl (lv_at hl 1 rfl) ?_
      refine zz_getr (k' := 44) hx hb hown zw hB zF_X7_57 zdC_0 rfl rfl dX7_which_68 ?_
      refine lv_aload_n hx hb dX7_which_71 rfl (lv_at hl 1 rfl) ?_
      refine zz_getr (k' := 37) hx hb hown zw hB zF_X7_50 zdC_0 rfl rfl dX7_which_72 ?_
      refine lv_lconst (v := (0 : Int64)) hx hb dX7_which_75 (by decide) ?_
      refine zz_gov hB hA (zz_runV (As := [.ref (a1 37), .long (0 : Int64)]) (rest := []) hx hb hml hown zw hB zM_X7_182 (zc_X3_find l D ca a1 I64 L64 H.size h) zdC_44 rfl rfl hl.1 rfl (Nat.le_of_ble_eq_true rfl) rfl rfl ⟨Nat.le_of_ble_eq_true rfl, Nat.le_of_ble_eq_true rfl⟩ dX7_which_76 ⟨Nat.le_of_ble_eq_true rfl, Nat.le_of_ble_eq_true rfl⟩) (fun I76 L76 H locs h hB => ?_)
      refine lv_aload_n hx hb dX7_which_79 rfl (lv_at hl 1 rfl) ?_
      refine zz_getr (k' := 37) hx hb hown zw hB zF_X7_50 zdC_0 rfl rfl dX7_which_80 ?_
      refine lv_aload_n hx hb dX7_which_83 rfl (lv_at hl 1 rfl) ?_
      refine zz_getr (k' := 14) hx hb hown zw hB zF_X7_19 zdC_0 rfl rfl dX7_which_84 ?_
      refine lv_aload_n hx hb dX7_which_87 rfl (lv_at hl 1 rfl) ?_
      refine zz_getr (k' := 21) hx hb hown zw hB zF_X7_26 zdC_0 rfl rfl dX7_which_88 ?_
      refine zz_gol hB hA (zz_runV (As := [.ref (a1 14), .ref (a1 21)]) (rest := []) hx hb hml hown zw hB zM_X7_174 (zc_X0_countAll l D ca a1 I76 L76 H.size zz_isT_21 h) zdC_37 rfl rfl hl.1 rfl (Nat.le_of_ble_eq_true rfl) rfl rfl ⟨Nat.le_of_ble_eq_true rfl, Nat.le_of_ble_eq_true rfl⟩ dX7_which_91 ⟨Nat.le_of_ble_eq_true rfl, Nat.le_of_ble_eq_true rfl⟩) (fun r91 I91 L91 H locs h hB => ?_)
      refine lv_pop2_2 hx hb dX7_which_94 rfl ?_
      refine lv_aload_n hx hb dX7_which_95 rfl (lv_at hl 1 rfl) ?_
      refine zz_getr (k' := 44) hx hb hown zw hB zF_X7_57 zdC_0 rfl rfl dX7_which_96 ?_
      refine lv_aload_n hx hb dX7_which_99 rfl (lv_at hl 1 rfl) ?_
      refine zz_getr (k' := 37) hx hb hown zw hB zF_X7_50 zdC_0 rfl rfl dX7_which_100 ?_
      refine lv_aload_n hx hb dX7_which_103 rfl (lv_at hl 1 rfl) ?_
      refine zz_getr (k' := 21) hx hb hown zw hB zF_X7_26 zdC_0 rfl rfl dX7_which_104 ?_
      refine zz_getr (k' := 24) hx hb hown zw hB zF_X7_119 zdC_21 rfl rfl dX7_which_107 ?_
      refine zz_gov hB hA (zz_runV (As := [.ref (a1 37), .ref (a1 24)]) (rest := []) hx hb hml hown zw hB zM_X7_178 (zc_X3_build l D ca a1 I91 L91 H.size h) zdC_44 rfl rfl hl.1 rfl (Nat.le_of_ble_eq_true rfl) rfl rfl ⟨Nat.le_of_ble_eq_true rfl, Nat.le_of_ble_eq_true rfl⟩ dX7_which_110 ⟨Nat.le_of_ble_eq_true rfl, Nat.le_of_ble_eq_true rfl⟩) (fun I110 L110 H locs h hB => ?_)
      refine lv_aload_n hx hb dX7_which_113 rfl (lv_at hl 1 rfl) ?_
      refine zz_getr (k' := 44) hx hb hown zw hB zF_X7_57 zdC_0 rfl rfl dX7_which_114 ?_
      refine lv_aload_n hx hb dX7_which_117 rfl (lv_at hl 1 rfl) ?_
      refine zz_getr (k' := 37) hx hb hown zw hB zF_X7_50 zdC_0 rfl rfl dX7_which_118 ?_
      refine zz_golp hB hA (zz_runV (As := [.ref (a1 37)]) (rest := []) hx hb hml hown zw hB zM_X7_232 (zc_X3_rankOfPath l D ca a1 I110 L110 H.size h) zdC_44 rfl rfl hl.1 rfl (Nat.le_of_ble_eq_true rfl) rfl rfl ⟨Nat.le_of_ble_eq_true rfl, Nat.le_of_ble_eq_true rfl⟩ dX7_which_121 ⟨Nat.le_of_ble_eq_true rfl, Nat.le_of_ble_eq_true rfl⟩) (fun r121 H locs h hB => ?_)
      exact zz_lretN hx hb hr hlocks ha hB h dX7_which_124
    · have h := h.2 c41
      refine lv_ldc2 (v := (-9 : Int64)) hx hb hown (zz_W_use zw zk_X7_230 rfl) dX7_which_45 ?_
      refine W.widen (k := 1) (n := 14016) (Nat.le_of_ble_eq_true rfl) (Nat.le_of_ble_eq_true rfl) ?_
      exact zz_lretN hx hb hr hlocks ha hB h dX7_which_48
  · have h := h.2 c34
    refine lv_lload_n hx hb dX7_which_37 rfl (lv_at hl 0 rfl) ?_
    refine W.widen (k := 1) (n := 14016) (Nat.le_of_ble_eq_true rfl) (Nat.le_of_ble_eq_true rfl) ?_
    exact zz_lretN hx hb hr hlocks ha hB h dX7_which_38
def zp_X7_whichn (x1 : Int32) (P : Int64 → zz_I → zz_L → Prop) (I : zz_I) (L : zz_L) : Prop := (x1 = 0 → zp_X7_whichn_13 P x1 I L) ∧ (¬ x1 = 0 → (x1 = (1 : Int32) → zp_X7_whichn_13 P x1 I L) ∧ (¬ x1 = (1 : Int32) → P (-2 : Int64) I L))
set_option maxHeartbeats 4000000 in
set_option maxRecDepth 100000 in
theorem zq_X7_whichn {p : Program} {l : Launch} {e : Env} {s : State} {m : MethodId} {args : Array Value} {below : List Frame} {meth : Method} {c : Code} {D : va_G} {ca : Nat → ClassId} {A : Nat → Prop} {a0 a : Nat → Nat}  {P : Int64 → zz_I → zz_L → Prop} {I : zz_I} {L : zz_L} {x1 : Int32} (X : zz_X p s m meth c cX7_which RX7 (some .long) 4) (hA : ∀ q, s.heap.size ≤ q → A q) (ha : ∀ k, k ≠ 45 → a k = a0 k)   (h : zp_X7_whichn x1 P I L) : zz_Go p l e ({ frames := 4, cells := 1, slots := 14016, locals := 109 } : Room) s m args below meth c 0 0 (MQ below (zz_QlN D ca zz_dC A a0 P) args s 1 14016 A) D ca zz_dC A 4 0 a [] [(0, .ref (a 0)), (1, .int x1)] I L := by
  obtain ⟨hx, hb, hml, hown, zw, hr, hlocks⟩ := id X
  intro H locs ls hB hl
  unfold zp_X7_whichn at h
  refine lv_iload_n hx hb dX7_which_0 rfl (lv_at hl 1 rfl) ?_
  refine lv_if_eq (tgt := 13) hx hb dX7_which_1 (by decide) (fun c1 => ?_) (fun c1 => ?_)
  · have h := h.1 c1
    exact zq_X7_whichn_13 X hA ha h H locs ls hB (lv_sub hl [0, 1] rfl)
  · have h := h.2 c1
    refine lv_iload_n hx hb dX7_which_4 rfl (lv_at hl 1 rfl) ?_
    refine lv_iconst (v := (1 : Int32)) hx hb dX7_which_5 (by decide) ?_
    refine lv_icmp_eq (tgt := 13) hx hb dX7_which_6 (by decide) (fun c6 => ?_) (fun c6 => ?_)
    · have h := h.1 c6
      exact zq_X7_whichn_13 X hA ha h H locs ls hB (lv_sub hl [0, 1] rfl)
    · have h := h.2 c6
      refine lv_ldc2 (v := (-2 : Int64)) hx hb hown (zz_W_use zw zk_X7_198 rfl) dX7_which_9 ?_
      refine W.widen (k := 1) (n := 14016) (Nat.le_of_ble_eq_true rfl) (Nat.le_of_ble_eq_true rfl) ?_
      exact zz_lretN hx hb hr hlocks ha hB h dX7_which_12
theorem zc_X7_whichn (l : Launch) (D : va_G) (ca : Nat → ClassId) (a : Nat → Nat) (I : zz_I) (L : zz_L) (sz : Nat) {x1 : Int32} {P : Int64 → zz_I → zz_L → Prop}  (h : zp_X7_whichn x1 P I L) : Met l yX7_which [.code yX7_which cX7_which 4 (some .long)] ({ frames := 4, cells := 1, slots := 14016, locals := 109 } : Room) (zz_Pre D ca zz_dC [.ref (a 0), .int x1] a I L sz) (zz_QlN D ca zz_dC (zz_A ca zz_dC a I L sz) a P) 1 14016 (zz_A ca zz_dC a I L sz) :=
  zz_start (by decide) (Nat.le_of_ble_eq_true rfl) (fun p e s m below meth c X hsz hA => zq_X7_whichn X hA (fun _ _ => rfl) h)
def zp_X7_drawnn_60b (K60 : Int32 → Int32 → zz_I → zz_L → Prop) (P : Int32 → zz_I → zz_L → Prop) (x1 : Int32) (x2 : Int64) (x4 : Int32) (x5 : Int32) (I : zz_I) (L : zz_L) : Prop := (x1 ≤ x5 → P x4 I L) ∧ (¬ x1 ≤ x5 → ∀ L79 : zz_L, L79 = zz_up L 0 12 (((L 0 12) * (6364136223846793005 : Int64)) + (1442695040888963407 : Int64)) → ((x2 ≤ (0 : Int64) → ∀ v120 : Int32, v120 = x5 + (1 : Int32) → (K60 x4 v120 I L79)) ∧ (¬ x2 ≤ (0 : Int64) → ¬ x2 = 0 ∧ (zp_X3_find ((((L79 0 12).toUInt64 >>> ((33 : Int32).toInt64.toUInt64 &&& Int64.toUInt64 63)).toInt64) - (((L79 0 12).toUInt64 >>> ((33 : Int32).toInt64.toUInt64 &&& Int64.toUInt64 63)).toInt64) / x2 * x2) (fun I105 L105 => ∀ v118 : Int32, v118 = x4 + (I105 44 4) → (∀ v120 : Int32, v120 = x5 + (1 : Int32) → (K60 v118 v120 I105 L105))) I L79))))
set_option maxHeartbeats 4000000 in
set_option maxRecDepth 100000 in
theorem zq_X7_drawnn_60b {p : Program} {l : Launch} {e : Env} {s : State} {m : MethodId} {args : Array Value} {below : List Frame} {meth : Method} {c : Code} {D : va_G} {ca : Nat → ClassId} {A : Nat → Prop} {a0 a : Nat → Nat} {K60 : Int32 → Int32 → zz_I → zz_L → Prop} {P : Int32 → zz_I → zz_L → Prop} {I : zz_I} {L : zz_L} {x1 : Int32} {x2 : Int64} {x4 : Int32} {x5 : Int32} (X : zz_X p s m meth c cX7_drawn RX7 (some .int) 6) (hA : ∀ q, s.heap.size ≤ q → A q) (ha : ∀ k, k ≠ 45 → a k = a0 k)  (hK60 : ∀ (y4 : Int32) (y5 : Int32) (I8 : zz_I) (L8 : zz_L), K60 y4 y5 I8 L8 → zz_Go p l e ({ frames := 4, cells := 1, slots := 14016, locals := 109 } : Room) s m args below meth c 1 14016 (MQ below (zz_QiN D ca zz_dC A a0 P) args s 1 14016 A) D ca zz_dC A 6 60 a [] [(0, .ref (a 0)), (1, .int x1), (2, .long x2), (4, .int y4), (5, .int y5)] I8 L8) (h : zp_X7_drawnn_60b K60 P x1 x2 x4 x5 I L) : zz_Go p l e ({ frames := 4, cells := 1, slots := 14016, locals := 109 } : Room) s m args below meth c 1 14016 (MQ below (zz_QiN D ca zz_dC A a0 P) args s 1 14016 A) D ca zz_dC A 6 60 a [] [(0, .ref (a 0)), (1, .int x1), (2, .long x2), (4, .int x4), (5, .int x5)] I L := by
  obtain ⟨hx, hb, hml, hown, zw, hr, hlocks⟩ := id X
  intro H locs ls hB hl
  unfold zp_X7_drawnn_60b at h
  refine lv_iload hx hb dX7_drawn_60 (lv_at hl 4 rfl) ?_
  refine lv_iload_n hx hb dX7_drawn_62 rfl (lv_at hl 1 rfl) ?_
  refine lv_icmp_ge (tgt := 126) hx hb dX7_drawn_63 (by decide) (fun c63 => ?_) (fun c63 => ?_)
  · have h := h.1 c63
    refine lv_iload hx hb dX7_drawn_126 (lv_at hl 3 rfl) ?_
    exact zz_iretN hx hb hr hlocks ha hB h dX7_drawn_128
  · have h := h.2 c63
    refine lv_aload_n hx hb dX7_drawn_66 rfl (lv_at hl 0 rfl) ?_
    refine lv_aload_n hx hb dX7_drawn_67 rfl (lv_at hl 0 rfl) ?_
    refine zz_getl hx hb hown zw hB zF_X7_74 zdC_0 rfl dX7_drawn_68 ?_
    refine lv_ldc2 (v := (6364136223846793005 : Int64)) hx hb hown (zz_W_use zw zk_X7_259 rfl) dX7_drawn_71 ?_
    refine lv_lmul hx hb dX7_drawn_74 ?_
    refine lv_ldc2 (v := (1442695040888963407 : Int64)) hx hb hown (zz_W_use zw zk_X7_261 rfl) dX7_drawn_75 ?_
    refine lv_ladd hx hb dX7_drawn_78 ?_
    refine zz_putl hx hb hown zw hB zP_X7_74 zdC_0 rfl dX7_drawn_79 (fun H locs hB => ?_)
    obtain ⟨L79, eL79⟩ : ∃ z : zz_L, z = zz_up L 0 12 (((L 0 12) * (6364136223846793005 : Int64)) + (1442695040888963407 : Int64)) := ⟨_, rfl⟩
    rw [← eL79] at hB
    have h := h L79 eL79
    refine lv_lload_n hx hb dX7_drawn_82 rfl (lv_at hl 2 rfl) ?_
    refine lv_lconst (v := (0 : Int64)) hx hb dX7_drawn_83 (by decide) ?_
    refine zz_l_le (tgt := 120) hx hb dX7_drawn_84 dX7_drawn_85 (by decide) (fun c84 => ?_) (fun c84 => ?_)
    · have h := h.1 c84
      obtain ⟨v120, ev120⟩ : ∃ z : Int32, z = x5 + (1 : Int32) := ⟨_, rfl⟩
      have h := h v120 ev120
      refine lv_iinc (v := v120) (lv' := [(5, .int v120), (0, .ref (a 0)), (1, .int x1), (2, .long x2), (4, .int x4)]) hx hb dX7_drawn_120 hl (k := 4) rfl (by rw [ev120]; rfl) (by decide) rfl (fun ls hl => ?_)
      refine lv_goto (tgt := 60) hx hb dX7_drawn_123 (by decide) ?_
      exact hK60 _ _ _ _ h H locs ls hB (lv_sub hl [1, 2, 3, 4, 0] rfl)
    · have h := h.2 c84
      refine lv_aload_n hx hb dX7_drawn_88 rfl (lv_at hl 0 rfl) ?_
      refine zz_getr (k' := 44) hx hb hown zw hB zF_X7_57 zdC_0 rfl rfl dX7_drawn_89 ?_
      refine lv_aload_n hx hb dX7_drawn_92 rfl (lv_at hl 0 rfl) ?_
      refine zz_getr (k' := 37) hx hb hown zw hB zF_X7_50 zdC_0 rfl rfl dX7_drawn_93 ?_
      refine lv_aload_n hx hb dX7_drawn_96 rfl (lv_at hl 0 rfl) ?_
      refine zz_getl hx hb hown zw hB zF_X7_74 zdC_0 rfl dX7_drawn_97 ?_
      refine lv_bipush (v := (33 : Int32)) hx hb dX7_drawn_100 (by decide) ?_
      refine lv_lushr (v := ((L79 0 12).toUInt64 >>> ((33 : Int32).toInt64.toUInt64 &&& Int64.toUInt64 63)).toInt64) hx hb dX7_drawn_102 rfl ?_
      refine lv_lload_n hx hb dX7_drawn_103 rfl (lv_at hl 2 rfl) ?_
      obtain ⟨h104, h⟩ := h
      refine lv_lrem hx hb dX7_drawn_104 h104 ?_
      refine zz_gov hB hA (zz_runV (As := [.ref (a 37), .long ((((L79 0 12).toUInt64 >>> ((33 : Int32).toInt64.toUInt64 &&& Int64.toUInt64 63)).toInt64) - (((L79 0 12).toUInt64 >>> ((33 : Int32).toInt64.toUInt64 &&& Int64.toUInt64 63)).toInt64) / x2 * x2)]) (rest := []) hx hb hml hown zw hB zM_X7_182 (zc_X3_find l D ca a I L79 H.size h) zdC_44 rfl rfl hl.1 rfl (Nat.le_of_ble_eq_true rfl) rfl rfl ⟨Nat.le_of_ble_eq_true rfl, Nat.le_of_ble_eq_true rfl⟩ dX7_drawn_105 ⟨Nat.le_of_ble_eq_true rfl, Nat.le_of_ble_eq_true rfl⟩) (fun I105 L105 H locs h hB => ?_)
      refine lv_iload hx hb dX7_drawn_108 (lv_at hl 3 rfl) ?_
      refine lv_aload_n hx hb dX7_drawn_110 rfl (lv_at hl 0 rfl) ?_
      refine zz_getr (k' := 44) hx hb hown zw hB zF_X7_57 zdC_0 rfl rfl dX7_drawn_111 ?_
      refine zz_geti hx hb hown zw hB zF_X7_186 zdC_44 rfl dX7_drawn_114 ?_
      refine lv_iadd hx hb dX7_drawn_117 ?_
      refine lv_topi (fun v118 ev118 => ?_)
      have h := h v118 ev118
      refine lv_istore (lv' := [(4, .int v118), (0, .ref (a 0)), (1, .int x1), (2, .long x2), (5, .int x5)]) hx hb dX7_drawn_118 hl (by decide) rfl (fun ls hl => ?_)
      obtain ⟨v120, ev120⟩ : ∃ z : Int32, z = x5 + (1 : Int32) := ⟨_, rfl⟩
      have h := h v120 ev120
      refine lv_iinc (v := v120) (lv' := [(5, .int v120), (4, .int v118), (0, .ref (a 0)), (1, .int x1), (2, .long x2)]) hx hb dX7_drawn_120 hl (k := 4) rfl (by rw [ev120]; rfl) (by decide) rfl (fun ls hl => ?_)
      refine lv_goto (tgt := 60) hx hb dX7_drawn_123 (by decide) ?_
      exact hK60 _ _ _ _ h H locs ls hB (lv_sub hl [2, 3, 4, 1, 0] rfl)
def zp_X7_drawnn_60  (P : Int32 → zz_I → zz_L → Prop) (x1 : Int32) (x2 : Int64) (x4 : Int32) (x5 : Int32) (I : zz_I) (L : zz_L) : Prop := ∃ (Inv : Int32 → Int32 → zz_I → zz_L → Prop) (μ : Int32 → Int32 → zz_I → zz_L → Nat), Inv x4 x5 I L ∧ ∀ (y4 : Int32) (y5 : Int32) (I8 : zz_I) (L8 : zz_L), Inv y4 y5 I8 L8 → zp_X7_drawnn_60b  (fun z4 z5 I7 L7 => Inv z4 z5 I7 L7 ∧ μ z4 z5 I7 L7 < μ y4 y5 I8 L8) P x1 x2 y4 y5 I8 L8
set_option maxHeartbeats 4000000 in
set_option maxRecDepth 100000 in
theorem zq_X7_drawnn_60 {p : Program} {l : Launch} {e : Env} {s : State} {m : MethodId} {args : Array Value} {below : List Frame} {meth : Method} {c : Code} {D : va_G} {ca : Nat → ClassId} {A : Nat → Prop} {a0 a : Nat → Nat}  {P : Int32 → zz_I → zz_L → Prop} {I : zz_I} {L : zz_L} {x1 : Int32} {x2 : Int64} {x4 : Int32} {x5 : Int32} (X : zz_X p s m meth c cX7_drawn RX7 (some .int) 6) (hA : ∀ q, s.heap.size ≤ q → A q) (ha : ∀ k, k ≠ 45 → a k = a0 k)   (h : zp_X7_drawnn_60  P x1 x2 x4 x5 I L) : zz_Go p l e ({ frames := 4, cells := 1, slots := 14016, locals := 109 } : Room) s m args below meth c 1 14016 (MQ below (zz_QiN D ca zz_dC A a0 P) args s 1 14016 A) D ca zz_dC A 6 60 a [] [(0, .ref (a 0)), (1, .int x1), (2, .long x2), (4, .int x4), (5, .int x5)] I L := by
  unfold zp_X7_drawnn_60 at h
  obtain ⟨Inv, μ, hv0, hs⟩ := h
  have key : ∀ (n9 : Nat) (y4 : Int32) (y5 : Int32) (I8 : zz_I) (L8 : zz_L), μ y4 y5 I8 L8 < n9 → Inv y4 y5 I8 L8 → zz_Go p l e ({ frames := 4, cells := 1, slots := 14016, locals := 109 } : Room) s m args below meth c 1 14016 (MQ below (zz_QiN D ca zz_dC A a0 P) args s 1 14016 A) D ca zz_dC A 6 60 a [] [(0, .ref (a 0)), (1, .int x1), (2, .long x2), (4, .int y4), (5, .int y5)] I8 L8 := by
    intro n9
    induction n9 with
    | zero => intro y4 y5 I8 L8 hn; exact absurd hn (Nat.not_lt_zero _)
    | succ n9 ih =>
      intro y4 y5 I8 L8 hn hi
      exact zq_X7_drawnn_60b (K60 := (fun z4 z5 I7 L7 => Inv z4 z5 I7 L7 ∧ μ z4 z5 I7 L7 < μ y4 y5 I8 L8)) X hA ha  (fun z4 z5 I7 L7 hz => ih z4 z5 I7 L7 (Nat.lt_of_lt_of_le hz.2 (Nat.le_of_lt_succ hn)) hz.1) (hs y4 y5 I8 L8 hi)
  exact key _ x4 x5 I L (Nat.lt_succ_self _) hv0
def zp_X7_drawnn (x1 : Int32) (P : Int32 → zz_I → zz_L → Prop) (I : zz_I) (L : zz_L) : Prop := (x1 < (1 : Int32) → P (-2 : Int32) I L) ∧ (¬ x1 < (1 : Int32) → (x1 ≤ (20 : Int32) → zp_X0_countAll 21 (fun r26 I26 L26 => (r26 ≤ (0 : Int64) → zp_X7_drawnn_60 P x1 r26 (0 : Int32) (0 : Int32) I26 L26) ∧ (¬ r26 ≤ (0 : Int64) → zp_X3_buildn  (fun I51 L51 => zp_X7_drawnn_60 P x1 r26 (0 : Int32) (0 : Int32) I51 L51) I26 L26)) I L) ∧ (¬ x1 ≤ (20 : Int32) → P (-2 : Int32) I L))
set_option maxHeartbeats 4000000 in
set_option maxRecDepth 100000 in
theorem zq_X7_drawnn {p : Program} {l : Launch} {e : Env} {s : State} {m : MethodId} {args : Array Value} {below : List Frame} {meth : Method} {c : Code} {D : va_G} {ca : Nat → ClassId} {A : Nat → Prop} {a0 a : Nat → Nat}  {P : Int32 → zz_I → zz_L → Prop} {I : zz_I} {L : zz_L} {x1 : Int32} (X : zz_X p s m meth c cX7_drawn RX7 (some .int) 6) (hA : ∀ q, s.heap.size ≤ q → A q) (ha : ∀ k, k ≠ 45 → a k = a0 k)   (h : zp_X7_drawnn x1 P I L) : zz_Go p l e ({ frames := 4, cells := 1, slots := 14016, locals := 109 } : Room) s m args below meth c 0 0 (MQ below (zz_QiN D ca zz_dC A a0 P) args s 1 14016 A) D ca zz_dC A 6 0 a [] [(0, .ref (a 0)), (1, .int x1)] I L := by
  obtain ⟨hx, hb, hml, hown, zw, hr, hlocks⟩ := id X
  intro H locs ls hB hl
  unfold zp_X7_drawnn at h
  refine lv_iload_n hx hb dX7_drawn_0 rfl (lv_at hl 1 rfl) ?_
  refine lv_iconst (v := (1 : Int32)) hx hb dX7_drawn_1 (by decide) ?_
  refine lv_icmp_lt (tgt := 11) hx hb dX7_drawn_2 (by decide) (fun c2 => ?_) (fun c2 => ?_)
  · have h := h.1 c2
    refine lv_bipush (v := (-2 : Int32)) hx hb dX7_drawn_11 (by decide) ?_
    refine W.widen (k := 1) (n := 14016) (Nat.le_of_ble_eq_true rfl) (Nat.le_of_ble_eq_true rfl) ?_
    exact zz_iretN hx hb hr hlocks ha hB h dX7_drawn_13
  · have h := h.2 c2
    refine lv_iload_n hx hb dX7_drawn_5 rfl (lv_at hl 1 rfl) ?_
    refine lv_bipush (v := (20 : Int32)) hx hb dX7_drawn_6 (by decide) ?_
    refine lv_icmp_le (tgt := 14) hx hb dX7_drawn_8 (by decide) (fun c8 => ?_) (fun c8 => ?_)
    · have h := h.1 c8
      refine lv_aload_n hx hb dX7_drawn_14 rfl (lv_at hl 0 rfl) ?_
      refine zz_getr (k' := 37) hx hb hown zw hB zF_X7_50 zdC_0 rfl rfl dX7_drawn_15 ?_
      refine lv_aload_n hx hb dX7_drawn_18 rfl (lv_at hl 0 rfl) ?_
      refine zz_getr (k' := 14) hx hb hown zw hB zF_X7_19 zdC_0 rfl rfl dX7_drawn_19 ?_
      refine lv_aload_n hx hb dX7_drawn_22 rfl (lv_at hl 0 rfl) ?_
      refine zz_getr (k' := 21) hx hb hown zw hB zF_X7_26 zdC_0 rfl rfl dX7_drawn_23 ?_
      refine zz_gol hB hA (zz_runV (As := [.ref (a 14), .ref (a 21)]) (rest := []) hx hb hml hown zw hB zM_X7_174 (zc_X0_countAll l D ca a I L H.size zz_isT_21 h) zdC_37 rfl rfl hl.1 rfl (Nat.le_of_ble_eq_true rfl) rfl rfl ⟨Nat.le_of_ble_eq_true rfl, Nat.le_of_ble_eq_true rfl⟩ dX7_drawn_26 ⟨Nat.le_of_ble_eq_true rfl, Nat.le_of_ble_eq_true rfl⟩) (fun r26 I26 L26 H locs h hB => ?_)
      refine lv_lstore_n (lv' := [(2, .long r26), (0, .ref (a 0)), (1, .int x1)]) hx hb dX7_drawn_29 rfl hl (by decide) rfl (fun ls hl => ?_)
      refine lv_lload_n hx hb dX7_drawn_30 rfl (lv_at hl 0 rfl) ?_
      refine lv_lconst (v := (0 : Int64)) hx hb dX7_drawn_31 (by decide) ?_
      refine zz_l_le (tgt := 54) hx hb dX7_drawn_32 dX7_drawn_33 (by decide) (fun c32 => ?_) (fun c32 => ?_)
      · have h := h.1 c32
        refine lv_iconst (v := (0 : Int32)) hx hb dX7_drawn_54 (by decide) ?_
        refine lv_istore (lv' := [(4, .int (0 : Int32)), (2, .long r26), (0, .ref (a 0)), (1, .int x1)]) hx hb dX7_drawn_55 hl (by decide) rfl (fun ls hl => ?_)
        refine lv_iconst (v := (0 : Int32)) hx hb dX7_drawn_57 (by decide) ?_
        refine lv_istore (lv' := [(5, .int (0 : Int32)), (4, .int (0 : Int32)), (2, .long r26), (0, .ref (a 0)), (1, .int x1)]) hx hb dX7_drawn_58 hl (by decide) rfl (fun ls hl => ?_)
        refine W.widen (k := 1) (n := 14016) (Nat.le_of_ble_eq_true rfl) (Nat.le_of_ble_eq_true rfl) ?_
        exact zq_X7_drawnn_60 X hA ha h H locs ls hB (lv_sub hl [3, 4, 2, 1, 0] rfl)
      · have h := h.2 c32
        refine lv_aload_n hx hb dX7_drawn_36 rfl (lv_at hl 1 rfl) ?_
        refine zz_getr (k' := 44) hx hb hown zw hB zF_X7_57 zdC_0 rfl rfl dX7_drawn_37 ?_
        refine lv_aload_n hx hb dX7_drawn_40 rfl (lv_at hl 1 rfl) ?_
        refine zz_getr (k' := 37) hx hb hown zw hB zF_X7_50 zdC_0 rfl rfl dX7_drawn_41 ?_
        refine lv_aload_n hx hb dX7_drawn_44 rfl (lv_at hl 1 rfl) ?_
        refine zz_getr (k' := 21) hx hb hown zw hB zF_X7_26 zdC_0 rfl rfl dX7_drawn_45 ?_
        refine zz_getr (k' := 24) hx hb hown zw hB zF_X7_119 zdC_21 rfl rfl dX7_drawn_48 ?_
        refine zz_govN hB hA (zz_runV (As := [.ref (a 37), .ref (a 24)]) (rest := []) hx hb hml hown zw hB zM_X7_178 (zc_X3_buildn l D ca a I26 L26 H.size h) zdC_44 rfl rfl hl.1 rfl (Nat.le_of_ble_eq_true rfl) rfl rfl ⟨Nat.le_of_ble_eq_true rfl, Nat.le_of_ble_eq_true rfl⟩ dX7_drawn_51 ⟨Nat.le_of_ble_eq_true rfl, Nat.le_of_ble_eq_true rfl⟩) (fun a1 I51 L51 H locs ha1 h hB => ?_)
        have ha : ∀ k, k ≠ 45 → a1 k = a0 k := fun k hk => (ha1 k hk).trans (ha k hk)
        have hl : lv_has ls 6 [(2, .long r26), (0, .ref (a1 0)), (1, .int x1)] := by
          rw [ha1 0 (by decide)]; exact hl
        refine lv_iconst (v := (0 : Int32)) hx hb dX7_drawn_54 (by decide) ?_
        refine lv_istore (lv' := [(4, .int (0 : Int32)), (2, .long r26), (0, .ref (a1 0)), (1, .int x1)]) hx hb dX7_drawn_55 hl (by decide) rfl (fun ls hl => ?_)
        refine lv_iconst (v := (0 : Int32)) hx hb dX7_drawn_57 (by decide) ?_
        refine lv_istore (lv' := [(5, .int (0 : Int32)), (4, .int (0 : Int32)), (2, .long r26), (0, .ref (a1 0)), (1, .int x1)]) hx hb dX7_drawn_58 hl (by decide) rfl (fun ls hl => ?_)
        exact zq_X7_drawnn_60 X hA ha h H locs ls hB (lv_sub hl [3, 4, 2, 1, 0] rfl)
    · have h := h.2 c8
      refine lv_bipush (v := (-2 : Int32)) hx hb dX7_drawn_11 (by decide) ?_
      refine W.widen (k := 1) (n := 14016) (Nat.le_of_ble_eq_true rfl) (Nat.le_of_ble_eq_true rfl) ?_
      exact zz_iretN hx hb hr hlocks ha hB h dX7_drawn_13
theorem zc_X7_drawnn (l : Launch) (D : va_G) (ca : Nat → ClassId) (a : Nat → Nat) (I : zz_I) (L : zz_L) (sz : Nat) {x1 : Int32} {P : Int32 → zz_I → zz_L → Prop}  (h : zp_X7_drawnn x1 P I L) : Met l yX7_drawn [.code yX7_drawn cX7_drawn 6 (some .int)] ({ frames := 4, cells := 1, slots := 14016, locals := 109 } : Room) (zz_Pre D ca zz_dC [.ref (a 0), .int x1] a I L sz) (zz_QiN D ca zz_dC (zz_A ca zz_dC a I L sz) a P) 1 14016 (zz_A ca zz_dC a I L sz) :=
  zz_start (by decide) (Nat.le_of_ble_eq_true rfl) (fun p e s m below meth c X hsz hA => zq_X7_drawnn X hA (fun _ _ => rfl) h)
