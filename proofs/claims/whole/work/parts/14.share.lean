def zp_X7_share_71b (K71 : Int64 → Int32 → zz_I → zz_L → Prop) (P : Int64 → zz_I → zz_L → Prop) (x2 : Int32) (x3 : Int32) (x4 : Int32) (x5 : Int32) (x6 : Int64) (x8 : Int32) (I : zz_I) (L : zz_L) : Prop := (x4 < x8 → zp_X7_factorial x5 (fun r159 => zp_X7_lowestTerms x6 r159 x2 (fun r163 => P r163 I L) I L) I L) ∧ (¬ x4 < x8 → (¬ (x8 &&& (x4 ^^^ (-1 : Int32))) = 0 → ∀ v149 : Int32, v149 = x8 + (1 : Int32) → (K71 x6 v149 I L)) ∧ ((x8 &&& (x4 ^^^ (-1 : Int32))) = 0 → (¬ (x8 &&& x3) = 0 → ∀ v149 : Int32, v149 = x8 + (1 : Int32) → (K71 x6 v149 I L)) ∧ ((x8 &&& x3) = 0 → zp_J6_bitCount_0f7a4 x8 (fun r97 => zp_X7_factorial r97 (fun r104 => zp_X7_factorial ((x5 - (1 : Int32)) - r97) (fun r114 => ∀ v118 : Int64, v118 = r104 * r114 → (zp_X0_countFrom (x8 ||| x3) (fun r132 I132 L132 => zp_X0_countFrom x8 (fun r141 I141 L141 => ∀ v147 : Int64, v147 = x6 + (v118 * (r132 - r141)) → (∀ v149 : Int32, v149 = x8 + (1 : Int32) → (K71 v147 v149 I141 L141))) I132 L132) I L)) I L) I L) I L)))
set_option maxHeartbeats 4000000 in
set_option maxRecDepth 100000 in
theorem zq_X7_share_71b {p : Program} {l : Launch} {e : Env} {s : State} {m : MethodId} {args : Array Value} {below : List Frame} {meth : Method} {c : Code} {D : va_G} {ca : Nat → ClassId} {A : Nat → Prop} {a : Nat → Nat} {K71 : Int64 → Int32 → zz_I → zz_L → Prop} {P : Int64 → zz_I → zz_L → Prop} {I : zz_I} {L : zz_L} {x2 : Int32} {x3 : Int32} {x4 : Int32} {x5 : Int32} {x6 : Int64} {x8 : Int32} (X : zz_X p s m meth c cX7_share RX7 (some .long) 12) (hA : ∀ q, s.heap.size ≤ q → A q) (hF : zz_St A s)  (hK71 : ∀ (y6 : Int64) (y8 : Int32) (I8 : zz_I) (L8 : zz_L), K71 y6 y8 I8 L8 → zz_Go p l e ({ frames := 4, cells := 0, slots := 0, locals := 99 } : Room) s m args below meth c 0 0 (MQ below (zz_Ql D ca zz_dC A a P) args s 0 0 A) D ca zz_dC A 12 71 a [] [(0, .ref (a 0)), (2, .int x2), (3, .int x3), (4, .int x4), (5, .int x5), (6, .long y6), (8, .int y8)] I8 L8) (h : zp_X7_share_71b K71 P x2 x3 x4 x5 x6 x8 I L) : zz_Go p l e ({ frames := 4, cells := 0, slots := 0, locals := 99 } : Room) s m args below meth c 0 0 (MQ below (zz_Ql D ca zz_dC A a P) args s 0 0 A) D ca zz_dC A 12 71 a [] [(0, .ref (a 0)), (2, .int x2), (3, .int x3), (4, .int x4), (5, .int x5), (6, .long x6), (8, .int x8)] I L := by
  obtain ⟨hx, hb, hml, hown, zw, hr, hlocks⟩ := id X
  intro H locs ls hB hl
  unfold zp_X7_share_71b at h
  refine lv_iload hx hb dX7_share_71 (lv_at hl 6 rfl) ?_
  refine lv_iload hx hb dX7_share_73 (lv_at hl 3 rfl) ?_
  refine lv_icmp_gt (tgt := 155) hx hb dX7_share_75 (by decide) (fun c75 => ?_) (fun c75 => ?_)
  · have h := h.1 c75
    refine lv_lload hx hb dX7_share_155 (lv_at hl 5 rfl) ?_
    refine lv_iload hx hb dX7_share_157 (lv_at hl 4 rfl) ?_
    refine zz_golp hB hA (zz_runSF (As := [.int x5]) (rest := [.long x6]) hx hb hml hown zw hB hA hF zM_X7_249 (zc_X7_factorial l D ca a I L H.size h) rfl hl.1 rfl (Nat.le_of_ble_eq_true rfl) rfl rfl ⟨Nat.le_of_ble_eq_true rfl, Nat.le_of_ble_eq_true rfl⟩ dX7_share_159 ⟨Nat.le_of_ble_eq_true rfl, Nat.le_of_ble_eq_true rfl⟩) (fun r159 H locs h hB => ?_)
    refine lv_iload_n hx hb dX7_share_162 rfl (lv_at hl 1 rfl) ?_
    refine zz_golp hB hA (zz_runS (As := [.long x6, .long r159, .int x2]) (rest := []) hx hb hml hown zw hB zM_X7_239 (zc_X7_lowestTerms l D ca a I L H.size h) rfl hl.1 rfl (Nat.le_of_ble_eq_true rfl) rfl rfl ⟨Nat.le_of_ble_eq_true rfl, Nat.le_of_ble_eq_true rfl⟩ dX7_share_163 ⟨Nat.le_of_ble_eq_true rfl, Nat.le_of_ble_eq_true rfl⟩) (fun r163 H locs h hB => ?_)
    exact zz_lret hx hb hr hlocks hB h dX7_share_166
  · have h := h.2 c75
    refine lv_iload hx hb dX7_share_78 (lv_at hl 6 rfl) ?_
    refine lv_iload hx hb dX7_share_80 (lv_at hl 3 rfl) ?_
    refine lv_iconst (v := (-1 : Int32)) hx hb dX7_share_82 (by decide) ?_
    refine lv_ixor hx hb dX7_share_83 ?_
    refine lv_iand hx hb dX7_share_84 ?_
    refine lv_if_ne (tgt := 149) hx hb dX7_share_85 (by decide) (fun c85 => ?_) (fun c85 => ?_)
    · have h := h.1 c85
      obtain ⟨v149, ev149⟩ : ∃ z : Int32, z = x8 + (1 : Int32) := ⟨_, rfl⟩
      have h := h v149 ev149
      refine lv_iinc (v := v149) (lv' := [(8, .int v149), (0, .ref (a 0)), (2, .int x2), (3, .int x3), (4, .int x4), (5, .int x5), (6, .long x6)]) hx hb dX7_share_149 hl (k := 6) rfl (by rw [ev149]; rfl) (by decide) rfl (fun ls hl => ?_)
      refine lv_goto (tgt := 71) hx hb dX7_share_152 (by decide) ?_
      exact hK71 _ _ _ _ h H locs ls hB (lv_sub hl [1, 2, 3, 4, 5, 6, 0] rfl)
    · have h := h.2 c85
      refine lv_iload hx hb dX7_share_88 (lv_at hl 6 rfl) ?_
      refine lv_iload_n hx hb dX7_share_90 rfl (lv_at hl 2 rfl) ?_
      refine lv_iand hx hb dX7_share_91 ?_
      refine lv_if_ne (tgt := 149) hx hb dX7_share_92 (by decide) (fun c92 => ?_) (fun c92 => ?_)
      · have h := h.1 c92
        obtain ⟨v149, ev149⟩ : ∃ z : Int32, z = x8 + (1 : Int32) := ⟨_, rfl⟩
        have h := h v149 ev149
        refine lv_iinc (v := v149) (lv' := [(8, .int v149), (0, .ref (a 0)), (2, .int x2), (3, .int x3), (4, .int x4), (5, .int x5), (6, .long x6)]) hx hb dX7_share_149 hl (k := 6) rfl (by rw [ev149]; rfl) (by decide) rfl (fun ls hl => ?_)
        refine lv_goto (tgt := 71) hx hb dX7_share_152 (by decide) ?_
        exact hK71 _ _ _ _ h H locs ls hB (lv_sub hl [1, 2, 3, 4, 5, 6, 0] rfl)
      · have h := h.2 c92
        refine lv_iload hx hb dX7_share_95 (lv_at hl 6 rfl) ?_
        refine zz_goip hB hA (zz_runS (As := [.int x8]) (rest := []) hx hb hml hown zw hB zM_X7_243 (zc_J6_bitCount_0f7a4 l D ca a I L H.size h) rfl hl.1 rfl (Nat.le_of_ble_eq_true rfl) rfl rfl ⟨Nat.le_of_ble_eq_true rfl, Nat.le_of_ble_eq_true rfl⟩ dX7_share_97 ⟨Nat.le_of_ble_eq_true rfl, Nat.le_of_ble_eq_true rfl⟩) (fun r97 H locs h hB => ?_)
        refine lv_istore (lv' := [(9, .int r97), (0, .ref (a 0)), (2, .int x2), (3, .int x3), (4, .int x4), (5, .int x5), (6, .long x6), (8, .int x8)]) hx hb dX7_share_100 hl (by decide) rfl (fun ls hl => ?_)
        refine lv_iload hx hb dX7_share_102 (lv_at hl 0 rfl) ?_
        refine zz_golp hB hA (zz_runSF (As := [.int r97]) (rest := []) hx hb hml hown zw hB hA hF zM_X7_249 (zc_X7_factorial l D ca a I L H.size h) rfl hl.1 rfl (Nat.le_of_ble_eq_true rfl) rfl rfl ⟨Nat.le_of_ble_eq_true rfl, Nat.le_of_ble_eq_true rfl⟩ dX7_share_104 ⟨Nat.le_of_ble_eq_true rfl, Nat.le_of_ble_eq_true rfl⟩) (fun r104 H locs h hB => ?_)
        refine lv_iload hx hb dX7_share_107 (lv_at hl 5 rfl) ?_
        refine lv_iconst (v := (1 : Int32)) hx hb dX7_share_109 (by decide) ?_
        refine lv_isub hx hb dX7_share_110 ?_
        refine lv_iload hx hb dX7_share_111 (lv_at hl 0 rfl) ?_
        refine lv_isub hx hb dX7_share_113 ?_
        refine zz_golp hB hA (zz_runSF (As := [.int ((x5 - (1 : Int32)) - r97)]) (rest := [.long r104]) hx hb hml hown zw hB hA hF zM_X7_249 (zc_X7_factorial l D ca a I L H.size h) rfl hl.1 rfl (Nat.le_of_ble_eq_true rfl) rfl rfl ⟨Nat.le_of_ble_eq_true rfl, Nat.le_of_ble_eq_true rfl⟩ dX7_share_114 ⟨Nat.le_of_ble_eq_true rfl, Nat.le_of_ble_eq_true rfl⟩) (fun r114 H locs h hB => ?_)
        refine lv_lmul hx hb dX7_share_117 ?_
        refine lv_topl (fun v118 ev118 => ?_)
        have h := h v118 ev118
        refine lv_lstore (lv' := [(10, .long v118), (9, .int r97), (0, .ref (a 0)), (2, .int x2), (3, .int x3), (4, .int x4), (5, .int x5), (6, .long x6), (8, .int x8)]) hx hb dX7_share_118 hl (by decide) rfl (fun ls hl => ?_)
        refine lv_lload hx hb dX7_share_120 (lv_at hl 7 rfl) ?_
        refine lv_lload hx hb dX7_share_122 (lv_at hl 0 rfl) ?_
        refine lv_aload_n hx hb dX7_share_124 rfl (lv_at hl 2 rfl) ?_
        refine zz_getr (k' := 37) hx hb hown zw hB zF_X7_50 zdC_0 rfl rfl dX7_share_125 ?_
        refine lv_iload hx hb dX7_share_128 (lv_at hl 8 rfl) ?_
        refine lv_iload_n hx hb dX7_share_130 rfl (lv_at hl 4 rfl) ?_
        refine lv_ior hx hb dX7_share_131 ?_
        refine zz_gol hB hA (zz_runV (As := [.int (x8 ||| x3)]) (rest := [.long v118, .long x6]) hx hb hml hown zw hB zM_X7_253 (zc_X0_countFrom l D ca a I L H.size h) zdC_37 rfl rfl hl.1 rfl (Nat.le_of_ble_eq_true rfl) rfl rfl ⟨Nat.le_of_ble_eq_true rfl, Nat.le_of_ble_eq_true rfl⟩ dX7_share_132 ⟨Nat.le_of_ble_eq_true rfl, Nat.le_of_ble_eq_true rfl⟩) (fun r132 I132 L132 H locs h hB => ?_)
        refine lv_aload_n hx hb dX7_share_135 rfl (lv_at hl 2 rfl) ?_
        refine zz_getr (k' := 37) hx hb hown zw hB zF_X7_50 zdC_0 rfl rfl dX7_share_136 ?_
        refine lv_iload hx hb dX7_share_139 (lv_at hl 8 rfl) ?_
        refine zz_gol hB hA (zz_runV (As := [.int x8]) (rest := [.long r132, .long v118, .long x6]) hx hb hml hown zw hB zM_X7_253 (zc_X0_countFrom l D ca a I132 L132 H.size h) zdC_37 rfl rfl hl.1 rfl (Nat.le_of_ble_eq_true rfl) rfl rfl ⟨Nat.le_of_ble_eq_true rfl, Nat.le_of_ble_eq_true rfl⟩ dX7_share_141 ⟨Nat.le_of_ble_eq_true rfl, Nat.le_of_ble_eq_true rfl⟩) (fun r141 I141 L141 H locs h hB => ?_)
        refine lv_lsub hx hb dX7_share_144 ?_
        refine lv_lmul hx hb dX7_share_145 ?_
        refine lv_ladd hx hb dX7_share_146 ?_
        refine lv_topl (fun v147 ev147 => ?_)
        have h := h v147 ev147
        refine lv_lstore (lv' := [(6, .long v147), (10, .long v118), (9, .int r97), (0, .ref (a 0)), (2, .int x2), (3, .int x3), (4, .int x4), (5, .int x5), (8, .int x8)]) hx hb dX7_share_147 hl (by decide) rfl (fun ls hl => ?_)
        obtain ⟨v149, ev149⟩ : ∃ z : Int32, z = x8 + (1 : Int32) := ⟨_, rfl⟩
        have h := h v149 ev149
        refine lv_iinc (v := v149) (lv' := [(8, .int v149), (6, .long v147), (10, .long v118), (9, .int r97), (0, .ref (a 0)), (2, .int x2), (3, .int x3), (4, .int x4), (5, .int x5)]) hx hb dX7_share_149 hl (k := 8) rfl (by rw [ev149]; rfl) (by decide) rfl (fun ls hl => ?_)
        refine lv_goto (tgt := 71) hx hb dX7_share_152 (by decide) ?_
        exact hK71 _ _ _ _ h H locs ls hB (lv_sub hl [4, 5, 6, 7, 8, 1, 0] rfl)
def zp_X7_share_71  (P : Int64 → zz_I → zz_L → Prop) (x2 : Int32) (x3 : Int32) (x4 : Int32) (x5 : Int32) (x6 : Int64) (x8 : Int32) (I : zz_I) (L : zz_L) : Prop := ∃ (Inv : Int64 → Int32 → zz_I → zz_L → Prop) (μ : Int64 → Int32 → zz_I → zz_L → Nat), Inv x6 x8 I L ∧ ∀ (y6 : Int64) (y8 : Int32) (I8 : zz_I) (L8 : zz_L), Inv y6 y8 I8 L8 → zp_X7_share_71b  (fun z6 z8 I7 L7 => Inv z6 z8 I7 L7 ∧ μ z6 z8 I7 L7 < μ y6 y8 I8 L8) P x2 x3 x4 x5 y6 y8 I8 L8
set_option maxHeartbeats 4000000 in
set_option maxRecDepth 100000 in
theorem zq_X7_share_71 {p : Program} {l : Launch} {e : Env} {s : State} {m : MethodId} {args : Array Value} {below : List Frame} {meth : Method} {c : Code} {D : va_G} {ca : Nat → ClassId} {A : Nat → Prop} {a : Nat → Nat}  {P : Int64 → zz_I → zz_L → Prop} {I : zz_I} {L : zz_L} {x2 : Int32} {x3 : Int32} {x4 : Int32} {x5 : Int32} {x6 : Int64} {x8 : Int32} (X : zz_X p s m meth c cX7_share RX7 (some .long) 12) (hA : ∀ q, s.heap.size ≤ q → A q) (hF : zz_St A s)   (h : zp_X7_share_71  P x2 x3 x4 x5 x6 x8 I L) : zz_Go p l e ({ frames := 4, cells := 0, slots := 0, locals := 99 } : Room) s m args below meth c 0 0 (MQ below (zz_Ql D ca zz_dC A a P) args s 0 0 A) D ca zz_dC A 12 71 a [] [(0, .ref (a 0)), (2, .int x2), (3, .int x3), (4, .int x4), (5, .int x5), (6, .long x6), (8, .int x8)] I L := by
  unfold zp_X7_share_71 at h
  obtain ⟨Inv, μ, hv0, hs⟩ := h
  have key : ∀ (n9 : Nat) (y6 : Int64) (y8 : Int32) (I8 : zz_I) (L8 : zz_L), μ y6 y8 I8 L8 < n9 → Inv y6 y8 I8 L8 → zz_Go p l e ({ frames := 4, cells := 0, slots := 0, locals := 99 } : Room) s m args below meth c 0 0 (MQ below (zz_Ql D ca zz_dC A a P) args s 0 0 A) D ca zz_dC A 12 71 a [] [(0, .ref (a 0)), (2, .int x2), (3, .int x3), (4, .int x4), (5, .int x5), (6, .long y6), (8, .int y8)] I8 L8 := by
    intro n9
    induction n9 with
    | zero => intro y6 y8 I8 L8 hn; exact absurd hn (Nat.not_lt_zero _)
    | succ n9 ih =>
      intro y6 y8 I8 L8 hn hi
      exact zq_X7_share_71b (K71 := (fun z6 z8 I7 L7 => Inv z6 z8 I7 L7 ∧ μ z6 z8 I7 L7 < μ y6 y8 I8 L8)) X hA hF  (fun z6 z8 I7 L7 hz => ih z6 z8 I7 L7 (Nat.lt_of_lt_of_le hz.2 (Nat.le_of_lt_succ hn)) hz.1) (hs y6 y8 I8 L8 hi)
  exact key _ x6 x8 I L (Nat.lt_succ_self _) hv0
def zp_X7_share (x1 : Int32) (x2 : Int32) (P : Int64 → zz_I → zz_L → Prop) (I : zz_I) (L : zz_L) : Prop := zp_X2_hasWord x1 (fun r5 => (¬ r5 = 0 → zp_X0_countAll 21 (fun r27 I27 L27 => ∀ v34 : Int32, v34 = (1 : Int32) <<< (x1 &&& 31) → (∀ v42 : Int32, v42 = I27 37 8 → ((¬ (v42 &&& v34) = 0 → zp_J6_bitCount_0f7a4 v42 (fun r60 => zp_X7_share_71 P x2 v34 v42 r60 (0 : Int64) (0 : Int32) I27 L27) I27 L27) ∧ ((v42 &&& v34) = 0 → zp_X7_lowestTerms (0 : Int64) (1 : Int64) x2 (fun r54 => P r54 I27 L27) I27 L27)))) I L) ∧ (r5 = 0 → P (-1 : Int64) I L)) I L
set_option maxHeartbeats 4000000 in
set_option maxRecDepth 100000 in
theorem zq_X7_share {p : Program} {l : Launch} {e : Env} {s : State} {m : MethodId} {args : Array Value} {below : List Frame} {meth : Method} {c : Code} {D : va_G} {ca : Nat → ClassId} {A : Nat → Prop} {a : Nat → Nat}  {P : Int64 → zz_I → zz_L → Prop} {I : zz_I} {L : zz_L} {x1 : Int32} {x2 : Int32} (X : zz_X p s m meth c cX7_share RX7 (some .long) 12) (hA : ∀ q, s.heap.size ≤ q → A q) (hF : zz_St A s)   (h : zp_X7_share x1 x2 P I L) : zz_Go p l e ({ frames := 4, cells := 0, slots := 0, locals := 99 } : Room) s m args below meth c 0 0 (MQ below (zz_Ql D ca zz_dC A a P) args s 0 0 A) D ca zz_dC A 12 0 a [] [(0, .ref (a 0)), (1, .int x1), (2, .int x2)] I L := by
  obtain ⟨hx, hb, hml, hown, zw, hr, hlocks⟩ := id X
  intro H locs ls hB hl
  unfold zp_X7_share at h
  refine lv_aload_n hx hb dX7_share_0 rfl (lv_at hl 0 rfl) ?_
  refine zz_getr (k' := 14) hx hb hown zw hB zF_X7_19 zdC_0 rfl rfl dX7_share_1 ?_
  refine lv_iload_n hx hb dX7_share_4 rfl (lv_at hl 1 rfl) ?_
  refine zz_goip hB hA (zz_runV (As := [.int x1]) (rest := []) hx hb hml hown zw hB zM_X7_105 (zc_X2_hasWord l D ca a I L H.size h) zdC_14 rfl rfl hl.1 rfl (Nat.le_of_ble_eq_true rfl) rfl rfl ⟨Nat.le_of_ble_eq_true rfl, Nat.le_of_ble_eq_true rfl⟩ dX7_share_5 ⟨Nat.le_of_ble_eq_true rfl, Nat.le_of_ble_eq_true rfl⟩) (fun r5 H locs h hB => ?_)
  refine lv_if_ne (tgt := 15) hx hb dX7_share_8 (by decide) (fun c8 => ?_) (fun c8 => ?_)
  · have h := h.1 c8
    refine lv_aload_n hx hb dX7_share_15 rfl (lv_at hl 0 rfl) ?_
    refine zz_getr (k' := 37) hx hb hown zw hB zF_X7_50 zdC_0 rfl rfl dX7_share_16 ?_
    refine lv_aload_n hx hb dX7_share_19 rfl (lv_at hl 0 rfl) ?_
    refine zz_getr (k' := 14) hx hb hown zw hB zF_X7_19 zdC_0 rfl rfl dX7_share_20 ?_
    refine lv_aload_n hx hb dX7_share_23 rfl (lv_at hl 0 rfl) ?_
    refine zz_getr (k' := 21) hx hb hown zw hB zF_X7_26 zdC_0 rfl rfl dX7_share_24 ?_
    refine zz_gol hB hA (zz_runV (As := [.ref (a 14), .ref (a 21)]) (rest := []) hx hb hml hown zw hB zM_X7_174 (zc_X0_countAll l D ca a I L H.size zz_isT_21 h) zdC_37 rfl rfl hl.1 rfl (Nat.le_of_ble_eq_true rfl) rfl rfl ⟨Nat.le_of_ble_eq_true rfl, Nat.le_of_ble_eq_true rfl⟩ dX7_share_27 ⟨Nat.le_of_ble_eq_true rfl, Nat.le_of_ble_eq_true rfl⟩) (fun r27 I27 L27 H locs h hB => ?_)
    refine lv_pop2_2 hx hb dX7_share_30 rfl ?_
    refine lv_iconst (v := (1 : Int32)) hx hb dX7_share_31 (by decide) ?_
    refine lv_iload_n hx hb dX7_share_32 rfl (lv_at hl 1 rfl) ?_
    refine lv_ishl hx hb dX7_share_33 ?_
    refine lv_topi (fun v34 ev34 => ?_)
    have h := h v34 ev34
    refine lv_istore_n (lv' := [(3, .int v34), (0, .ref (a 0)), (1, .int x1), (2, .int x2)]) hx hb dX7_share_34 rfl hl (by decide) rfl (fun ls hl => ?_)
    refine lv_aload_n hx hb dX7_share_35 rfl (lv_at hl 1 rfl) ?_
    refine zz_getr (k' := 37) hx hb hown zw hB zF_X7_50 zdC_0 rfl rfl dX7_share_36 ?_
    refine zz_geti hx hb hown zw hB zF_X7_236 zdC_37 rfl dX7_share_39 ?_
    refine lv_topi (fun v42 ev42 => ?_)
    have h := h v42 ev42
    refine lv_istore (lv' := [(4, .int v42), (3, .int v34), (0, .ref (a 0)), (1, .int x1), (2, .int x2)]) hx hb dX7_share_42 hl (by decide) rfl (fun ls hl => ?_)
    refine lv_iload hx hb dX7_share_44 (lv_at hl 0 rfl) ?_
    refine lv_iload_n hx hb dX7_share_46 rfl (lv_at hl 1 rfl) ?_
    refine lv_iand hx hb dX7_share_47 ?_
    refine lv_if_ne (tgt := 58) hx hb dX7_share_48 (by decide) (fun c48 => ?_) (fun c48 => ?_)
    · have h := h.1 c48
      refine lv_iload hx hb dX7_share_58 (lv_at hl 0 rfl) ?_
      refine zz_goip hB hA (zz_runS (As := [.int v42]) (rest := []) hx hb hml hown zw hB zM_X7_243 (zc_J6_bitCount_0f7a4 l D ca a I27 L27 H.size h) rfl hl.1 rfl (Nat.le_of_ble_eq_true rfl) rfl rfl ⟨Nat.le_of_ble_eq_true rfl, Nat.le_of_ble_eq_true rfl⟩ dX7_share_60 ⟨Nat.le_of_ble_eq_true rfl, Nat.le_of_ble_eq_true rfl⟩) (fun r60 H locs h hB => ?_)
      refine lv_istore (lv' := [(5, .int r60), (4, .int v42), (3, .int v34), (0, .ref (a 0)), (1, .int x1), (2, .int x2)]) hx hb dX7_share_63 hl (by decide) rfl (fun ls hl => ?_)
      refine lv_lconst (v := (0 : Int64)) hx hb dX7_share_65 (by decide) ?_
      refine lv_lstore (lv' := [(6, .long (0 : Int64)), (5, .int r60), (4, .int v42), (3, .int v34), (0, .ref (a 0)), (1, .int x1), (2, .int x2)]) hx hb dX7_share_66 hl (by decide) rfl (fun ls hl => ?_)
      refine lv_iconst (v := (0 : Int32)) hx hb dX7_share_68 (by decide) ?_
      refine lv_istore (lv' := [(8, .int (0 : Int32)), (6, .long (0 : Int64)), (5, .int r60), (4, .int v42), (3, .int v34), (0, .ref (a 0)), (1, .int x1), (2, .int x2)]) hx hb dX7_share_69 hl (by decide) rfl (fun ls hl => ?_)
      exact zq_X7_share_71 X hA hF h H locs ls hB (lv_sub hl [5, 7, 4, 3, 2, 1, 0] rfl)
    · have h := h.2 c48
      refine lv_lconst (v := (0 : Int64)) hx hb dX7_share_51 (by decide) ?_
      refine lv_lconst (v := (1 : Int64)) hx hb dX7_share_52 (by decide) ?_
      refine lv_iload_n hx hb dX7_share_53 rfl (lv_at hl 4 rfl) ?_
      refine zz_golp hB hA (zz_runS (As := [.long (0 : Int64), .long (1 : Int64), .int x2]) (rest := []) hx hb hml hown zw hB zM_X7_239 (zc_X7_lowestTerms l D ca a I27 L27 H.size h) rfl hl.1 rfl (Nat.le_of_ble_eq_true rfl) rfl rfl ⟨Nat.le_of_ble_eq_true rfl, Nat.le_of_ble_eq_true rfl⟩ dX7_share_54 ⟨Nat.le_of_ble_eq_true rfl, Nat.le_of_ble_eq_true rfl⟩) (fun r54 H locs h hB => ?_)
      exact zz_lret hx hb hr hlocks hB h dX7_share_57
  · have h := h.2 c8
    refine lv_ldc2 (v := (-1 : Int64)) hx hb hown (zz_W_use zw zk_X7_193 rfl) dX7_share_11 ?_
    exact zz_lret hx hb hr hlocks hB h dX7_share_14
theorem zc_X7_share (l : Launch) (D : va_G) (ca : Nat → ClassId) (a : Nat → Nat) (I : zz_I) (L : zz_L) (sz : Nat) {x1 : Int32} {x2 : Int32} {P : Int64 → zz_I → zz_L → Prop}  (h : zp_X7_share x1 x2 P I L) : Met l yX7_share [.code yX7_share cX7_share 12 (some .long)] ({ frames := 4, cells := 0, slots := 0, locals := 99 } : Room) (zz_PreF D ca zz_dC [.ref (a 0), .int x1, .int x2] a I L sz) (zz_Ql D ca zz_dC (zz_A ca zz_dC a I L sz) a P) 0 0 (zz_A ca zz_dC a I L sz) :=
  zz_startF (by decide) (Nat.le_of_ble_eq_true rfl) (fun p e s m below meth c X hsz hA hF => zq_X7_share X hA hF h)
