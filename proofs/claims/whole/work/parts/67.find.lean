/-! the class's ranking: build, find, walk -/
theorem zk_ch_fr {I J : zz_I} {un nw : Nat} {sp : Nat → Nat} {fo : Nat → Nat → Bool} {om : Nat → Nat} (h : ∀ k j, 37 ≤ k → k ≤ 41 → J k j = I k j) (hc : zk_ch I un nw sp fo om) : zk_ch J un nw sp fo om := by
  obtain ⟨c6, c7, h24, h8, hw, hm, hin⟩ := hc
  refine ⟨(h 37 6 (by omega) (by omega)).trans c6, (h 37 7 (by omega) (by omega)).trans c7, h24, h8, fun w hw' => ?_, fun u hu => ?_, hin⟩
  · obtain ⟨a, b, c, d⟩ := hw w hw'
    exact ⟨(h 41 w (by omega) (by omega)).trans a, b, c, (h 40 w (by omega) (by omega)).trans d⟩
  · obtain ⟨a, b⟩ := hm u hu
    exact ⟨(h 38 u (by omega) (by omega)).trans a, b⟩
section
variable {un nw : Nat} {sp wt : Nat → Nat} {op fo : Nat → Nat → Bool} {om' : Nat → Nat}
theorem zs_build17 {I : zz_I} {L : zz_L} {P : zz_I → zz_L → Prop} (hc : zk_ch I un nw sp fo om') (hop : zk_op un nw sp fo op om') (hwt : ∀ w, w < nw → I 24 w = nI (wt w) ∧ 1 ≤ wt w ∧ wt w ≤ 9) (h45 : I 45 0 = 14016) (h : ∀ (J : zz_I) (M : zz_L), (∀ k j, k ≠ 46 → J k j = I k j) → (∀ k j, k ≠ 45 → M k j = L k j) → zk_ch J un nw sp fo om' → zk_en un nw sp wt op fo om' J M → P J M) : zp_X3_buildn_17 P I L := by
  rintro _ rfl _ rfl
  have hf : ∀ k j, k ≠ 46 → zz_cp I 24 46 8 k j = I k j := fun k j hk => by
    show (if k = 46 ∧ j < 8 then I 24 j else I k j) = _
    rw [if_neg (fun q => hk q.1)]
  have h46 : ∀ j, j < 8 → zz_cp I 24 46 8 46 j = I 24 j := fun j hj => by
    show (if 46 = 46 ∧ j < 8 then I 24 j else I 46 j) = _
    rw [if_pos ⟨rfl, hj⟩]
  have hc2 := zk_ch_fr (J := zz_cp I 24 46 8) (fun k j h1 h2 => hf k j (by omega)) hc
  have h8 := hc.2.2.2.1
  rw [hc2.1]
  refine zs_build36 (wt := wt) hc2 hop (fun w hw => ?_) ((hf 45 0 (by omega)).trans h45) (fun M mf me => h _ M hf mf hc2 me)
  rw [h46 w (by omega)]; exact hwt w hw
theorem zs_buildn {I : zz_I} {L : zz_L} {P : zz_I → zz_L → Prop} (hc : zk_ch I un nw sp fo om') (hop : zk_op un nw sp fo op om') (hwt : ∀ w, w < nw → I 24 w = nI (wt w) ∧ 1 ≤ wt w ∧ wt w ≤ 9) (h45 : I 45 0 = 0 ∨ I 45 0 = 14016) (h : ∀ (J : zz_I) (M : zz_L), (∀ k j, k ≠ 46 → ¬ (k = 45 ∧ j = 0) → J k j = I k j) → (∀ k j, k ≠ 45 → M k j = L k j) → zk_ch J un nw sp fo om' → zk_en un nw sp wt op fo om' J M → P J M) : zp_X3_buildn P I L := by
  refine ⟨fun q => ?_, fun q => ?_⟩
  · rcases h45 with e | e
    · rw [e] at q; exact absurd (by decide) q
    · exact zs_build17 hc hop hwt e (fun J M f1 f2 => h J M (fun k j h1 _ => f1 k j h1) f2)
  · rintro _ _ rfl rfl
    refine zs_build17 (wt := wt) (zk_ch_fr (fun k j h1 h2 => zu_k (by omega)) hc) hop (fun w hw => ?_) zu_e (fun J M f1 f2 => h J M (fun k j h1 h2 => ?_) (fun k j hk => ?_))
    · rw [zu_k (by omega)]; exact hwt w hw
    · rw [f1 k j h1, zu_k2 h2]
    · rw [f2 k j hk]
      show (if k = 45 then 0 else L k j) = _
      rw [if_neg hk]
theorem zs_buildc {I : zz_I} {L : zz_L} {P : zz_I → zz_L → Prop} (hc : zk_ch I un nw sp fo om') (hop : zk_op un nw sp fo op om') (hwt : ∀ w, w < nw → I 24 w = nI (wt w) ∧ 1 ≤ wt w ∧ wt w ≤ 9) (h45 : I 45 0 = 14016) (h : ∀ (J : zz_I) (M : zz_L), (∀ k j, k ≠ 46 → J k j = I k j) → (∀ k j, k ≠ 45 → M k j = L k j) → zk_ch J un nw sp fo om' → zk_en un nw sp wt op fo om' J M → P J M) : zp_X3_build P I L := by
  refine ⟨fun q => ?_, fun q => ?_⟩
  · exact zs_build17 hc hop hwt h45 h
  · rw [h45] at q; exact absurd q (by decide)
theorem zk_W_om (hop : zk_op un nw sp fo op om') {t : Nat} : zt_sum nw (fun w => if (om' 0).testBit w then zk_T un nw sp wt op fo 0 w t else 0) = zk_W un nw sp wt op fo t := by
  unfold zk_W
  refine zt_sum_congr (fun w hw => ?_)
  cases q : (om' 0).testBit w
  · cases q2 : op 0 w
    · rfl
    · simp only [Bool.false_eq_true, if_false, if_true]
      refine (Nat.eq_zero_of_not_pos (fun hp => ?_)).symm
      have := hop.2.1 w hw q2 (zk_T_N hp)
      rw [q] at this; cases this
  · rw [(hop.1 _ _ q).2]
theorem zs_cww {I : zz_I} {L : zz_L} {P : Int64 → Prop} (hc : zk_ch I un nw sp fo om') (hop : zk_op un nw sp fo op om') (he : zk_en un nw sp wt op fo om' I L) {t : Nat} (ht : t < 73) (h : P (lN (zk_W un nw sp wt op fo t))) : zp_X3_countWithWeight (nI t) P I L := by
  obtain ⟨c6, c7, h24, h8, hw, hm, hin⟩ := id hc
  obtain ⟨h45, hwt, hT⟩ := he
  have e45 : (I 45 0).toNatClampNeg = 14016 := by rw [h45]; decide
  refine ⟨fun y3 y5 => ∃ j, j ≤ nw ∧ y5 = nI j ∧ y3 = lN (zt_sum j (fun w => if (om' 0).testBit w then zk_T un nw sp wt op fo 0 w t else 0)), fun _ y5 => 8 - y5.toNatClampNeg, ⟨0, by omega, rfl, rfl⟩, ?_⟩
  rintro y3 y5 ⟨j, hj, rfl, rfl⟩
  unfold zp_X3_countWithWeight_5b
  refine pk_le nw j (fun c => ?_) (fun c => ?_) (hx := c7)
  · have : j = nw := by omega
    subst this
    rw [zk_W_om hop]; exact h
  · have o0 := hm 0 (by omega)
    refine zs_isOpen (u := 0) o0.1 o0.2 (by omega) (by omega) (zb_br (fun q => ?_) (fun q => ?_))
    · rintro _ rfl
      refine ⟨⟨j + 1, by omega, nI_1 j, ?_⟩, zz_down (n := 8) (by omega) (by omega)⟩
      simp only [zt_sum]; rw [q]; rfl
    · unfold zp_X3_rowOf
      dsimp only
      rw [show ((0 : Int32) * 8 + nI j) * 73 = nI ((0 * 8 + j) * 73) from zk_row (u := 0), nI_add, e45, zn_cl (n := (0 * 8 + j) * 73 + t) (by omega), hT 0 j q t ht, lN_add]
      refine ⟨vp_in_nI (by omega) (by decide), ?_⟩
      rintro _ rfl _ rfl
      refine ⟨⟨j + 1, by omega, nI_1 j, ?_⟩, zz_down (n := 8) (by omega) (by omega)⟩
      simp only [zt_sum]; rw [q]; rfl
theorem zs_endsOf {I : zz_I} {L : zz_L} {P : Int64 → Prop} (hc : zk_ch I un nw sp fo om') (he : zk_en un nw sp wt op fo om' I L) {u w s left : Nat} (hu : u < 24) (hw8 : w < 8) (hs : s < 256) (hl : left ≤ 72) (h : P (lN (zk_Qd un nw sp wt op fo om' u s left w))) : zp_X3_endsOf (nI u) (nI w) (nI s) (nI left) P I L := by
  obtain ⟨c6, c7, h24, h8, hw, hm, hin⟩ := id hc
  obtain ⟨h45, hwt, hT⟩ := he
  have e45 : (I 45 0).toNatClampNeg = 14016 := by rw [h45]; decide
  have ou := hm u (by omega)
  unfold zk_Qd at h
  unfold zp_X3_endsOf
  refine zs_isOpen ou.1 ou.2 (by omega) hw8 (zb_br (fun q => ?_) (fun q => zy_bit hs hw8 (fun q2 => ?_) (fun q2 => ?_)))
  · rw [q] at h
    exact ⟨fun _ => h, fun z => absurd rfl z⟩
  · rw [q, q2] at h
    exact ⟨fun _ => h, fun z => absurd rfl z⟩
  · rw [q, q2] at h
    have h' : P (lN (zk_T un nw sp wt op fo u w left)) := h
    refine ⟨fun z => absurd z (by decide), fun _ => ⟨fun z => absurd z (nI_pos (by omega)), fun _ => ⟨fun z => absurd ((nI_ltI (a := 72) (by omega) (by omega)).mp z) (by omega), fun _ => ?_⟩⟩⟩
    unfold zp_X3_rowOf
    dsimp only
    rw [zk_row, nI_add, e45, zn_cl (n := (u * 8 + w) * 73 + left) (by omega), hT u w q left (by omega)]
    exact ⟨vp_in_nI (by omega) (by decide), h'⟩
end
theorem zk_en_fr {un nw : Nat} {sp wt : Nat → Nat} {op fo : Nat → Nat → Bool} {om' : Nat → Nat} {I J : zz_I} {M : zz_L} (h : ∀ k j, k = 45 ∨ k = 46 → J k j = I k j) (he : zk_en un nw sp wt op fo om' I M) : zk_en un nw sp wt op fo om' J M := by
  obtain ⟨a, b, c⟩ := he
  exact ⟨(h 45 0 (Or.inl rfl)).trans a, fun w hw => by rw [h 46 w (Or.inr rfl)]; exact b w hw, c⟩
section
variable {un nw : Nat} {sp wt : Nat → Nat} {op fo g : Nat → Nat → Bool} {om' : Nat → Nat}
theorem zk_HV_un {t r : Nat} (h0 : r < zk_HV un nw sp wt op fo g 0 8 t) : 0 < un := by
  refine Nat.lt_of_not_le (fun c => ?_)
  have : zk_HV un nw sp wt op fo g 0 8 t = 0 := by
    unfold zk_HV
    refine zt_sum_zero (fun w _ => ?_)
    rw [zk_T_no c]; simp
  omega
theorem zs_walk {I : zz_I} {L : zz_L} {P : zz_I → zz_L → Prop} {um t r : Nat} (hc : zk_ch I un nw sp fo om') (hop : zk_op un nw sp fo op om') (he : zk_en un nw sp wt op fo om' I L) (hin : ∀ u w, w < nw → op u w = true → u + sp w ≤ un) (hg : ∀ a w, a < nw → g a w = fo a w) (hg8 : ∀ w, g 8 w = true) (h378 : I 37 8 = nI um) (hu256 : um < 256) (hum : ∀ w, (om' 0).testBit w = true → um.testBit w = true) (ht : t ≤ 72) (h0 : r < zk_HV un nw sp wt op fo g 0 8 t) (hr : r < 2 ^ 62) (h444 : I 44 4 = nI t) (h443 : I 44 3 = 0) (h : ∀ (J : zz_I) (n : Nat), (∀ k j, k ≠ 47 → ¬ (k = 44 ∧ j = 3) → J k j = I k j) → zk_fin un nw sp wt op fo g t r n → n ≤ 8 → J 44 3 = nI n → (∀ j, j < n → J 47 j = nI (zk_wd un nw sp wt op fo g t r j)) → P J L) : zp_X3_walk (lN r) P I L := by
  obtain ⟨c6, c7, h24, h8, hw, hm, hin2⟩ := id hc
  have hsp : ∀ w, w < nw → 2 ≤ sp w := fun w hw' => (hw w hw').2.1
  rintro _ rfl _ rfl
  rw [h444, h378]
  have hun := zk_HV_un h0
  refine ⟨fun y4 y6 y7 y8 y9 J M => ∃ i : Nat, i ≤ 8 ∧ y9 = nI i ∧ y6 = nI (zk_at un nw sp wt op fo g t r i).1 ∧ y7 = nI (zk_at un nw sp wt op fo g t r i).2.2.1 ∧ y4 = lN (zk_at un nw sp wt op fo g t r i).2.2.2 ∧ y8 = nI (zk_sb un nw sp wt op fo g t r um i) ∧ L = M ∧ (∀ j, j < i → (zk_at un nw sp wt op fo g t r j).1 < un) ∧ (zk_at un nw sp wt op fo g t r i).1 ≤ 40 ∧ (∀ k j, k ≠ 47 → ¬ (k = 44 ∧ j = 3) → J k j = I k j) ∧ J 44 3 = nI i ∧ ∀ j, j < i → J 47 j = nI (zk_wd un nw sp wt op fo g t r j), fun _ _ _ _ y9 _ _ => 9 - y9.toNatClampNeg, ⟨0, by omega, rfl, rfl, rfl, rfl, rfl, rfl, fun j hj => absurd hj (by omega), Nat.zero_le _, fun _ _ _ _ => rfl, h443, fun j hj => absurd hj (by omega)⟩, ?_⟩
  rintro y4 y6 y7 y8 y9 J M ⟨i, hi, rfl, rfl, rfl, rfl, rfl, rfl, hal, h40, hf, hJ3, hJ7⟩
  unfold zp_X3_walk_21b
  have cJ := zk_ch_fr (J := J) (fun k j h1 h2 => hf k j (by omega) (by omega)) hc
  have eJ := zk_en_fr (J := J) (fun k j h1 => hf k j (by omega) (by omega)) he
  have fin : un ≤ (zk_at un nw sp wt op fo g t r i).1 → P J L := fun q => h J i hf ⟨hal, q⟩ hi hJ3 hJ7
  refine pk_le 8 i (fun c => fin ?_) (fun c => ?_)
  · refine Nat.le_of_not_lt (fun q => ?_)
    have := zk_at_8 hsp hin hg h0 i q
    omega
  · refine pk_le un (zk_at un nw sp wt op fo g t r i).1 fin (fun c1 => ?_) (hx := cJ.1)
    obtain ⟨k1, k2, k3, k4, k5, k6⟩ := zk_wd_ok hin hg h0 c1
    have kw := zk_T_wt k6
    have w1 := (he.2.1 _ k1).2.1
    have hle := zk_at_le (un := un) (nw := nw) (sp := sp) (wt := wt) (op := op) (fo := fo) (g := g) (t := t) (r := r) i
    have hst := zk_at_h (um := um) hin hg hg8 h0 (fun _ _ q => q) hop hum i c1
    have hsb := zk_sb_lt (un := un) (sp := sp) (wt := wt) (op := op) (fo := fo) (g := g) (t := t) (r := r) h8 hu256 i
    have hQd : ∀ w, w < nw → zk_Qd un nw sp wt op fo om' (zk_at un nw sp wt op fo g t r i).1 (zk_sb un nw sp wt op fo g t r um i) (zk_at un nw sp wt op fo g t r i).2.2.1 w = zk_Q un nw sp wt op fo g (zk_at un nw sp wt op fo g t r i) w := fun w hw' => zk_Qc (g := g) (a := (zk_at un nw sp wt op fo g t r i).2.1) (rest := (zk_at un nw sp wt op fo g t r i).2.2.2) hop hst.1 hst.2 hw'
    have hQb : ∀ w, w < nw → zk_Q un nw sp wt op fo g (zk_at un nw sp wt op fo g t r i) w ≤ 8 ^ 8 := fun w hw' => by
      rw [← hQd w hw']
      unfold zk_Qd
      split
      · exact zk_T_bd h8 h24 hsp hw'
      · exact Nat.zero_le _
    refine ⟨fun z => absurd z ?_, fun _ => ?_⟩
    · exact fun z => absurd ((nI_leI (b := 0) (by omega) (by omega)).mp z) (by omega)
    obtain ⟨Q, eQ⟩ : ∃ Q, Q = zk_Q un nw sp wt op fo g (zk_at un nw sp wt op fo g t r i) := ⟨_, rfl⟩
    obtain ⟨W, eW⟩ : ∃ W, W = zk_wd un nw sp wt op fo g t r i := ⟨_, rfl⟩
    obtain ⟨R, eR⟩ : ∃ R, R = (zk_at un nw sp wt op fo g t r i).2.2.2 := ⟨_, rfl⟩
    rw [← eQ, ← eW, ← eR] at k4 k5
    rw [← eW] at k1 kw w1
    have hR1 : (zk_at un nw sp wt op fo g t r (i + 1)).2.2.2 = R - zt_sum W Q := by rw [zk_at_4, ← eQ, ← eW, ← eR]
    rw [← eR] at hle
    have last : zp_X3_walk_106 (fun z4 z6 z7 z8 z9 I7 L7 => (∃ i : Nat, i ≤ 8 ∧ z9 = nI i ∧ z6 = nI (zk_at un nw sp wt op fo g t r i).1 ∧ z7 = nI (zk_at un nw sp wt op fo g t r i).2.2.1 ∧ z4 = lN (zk_at un nw sp wt op fo g t r i).2.2.2 ∧ z8 = nI (zk_sb un nw sp wt op fo g t r um i) ∧ L = L7 ∧ (∀ j, j < i → (zk_at un nw sp wt op fo g t r j).1 < un) ∧ (zk_at un nw sp wt op fo g t r i).1 ≤ 40 ∧ (∀ k j, k ≠ 47 → ¬ (k = 44 ∧ j = 3) → I7 k j = I k j) ∧ I7 44 3 = nI i ∧ ∀ j, j < i → I7 47 j = nI (zk_wd un nw sp wt op fo g t r j)) ∧ 9 - z9.toNatClampNeg < 9 - (nI i).toNatClampNeg) P (lN (R - zt_sum W Q)) (nI (zk_at un nw sp wt op fo g t r i).1) (nI (zk_at un nw sp wt op fo g t r i).2.2.1) (nI i) (nI W) J L := by
      refine ⟨fun _ => ⟨vp_in_nI (by omega) (by decide), ?_⟩, fun z => absurd ((nI_leI (a := 0) (by omega) (by omega)).mpr (by omega)) z⟩
      rw [zn_cl (n := i) (by omega), zn_cl (n := W) (by omega)]
      rintro _ rfl _ rfl
      obtain ⟨s41, s2, s15, s40⟩ := cJ.2.2.2.2.1 W k1
      have e46 : J 46 W = nI (wt W) := (eJ.2.1 W k1).1
      refine ⟨vp_in_nI (by omega) (by decide), ?_⟩
      rw [zu_k (k' := 46) (by omega), zu_k (k' := 46) (by omega), e46, pk_sub kw]
      rintro _ rfl
      refine ⟨vp_in_nI (by omega) (by decide), ?_⟩
      rw [zu_k (k' := 40) (by omega), zu_k (k' := 40) (by omega), s40]
      rintro _ rfl
      refine zs_nextUnit (sp := sp) ?_ (by omega) ?_
      · rw [zu_k (k' := 41) (by omega), zu_k (k' := 41) (by omega)]; exact s41
      rintro _ rfl
      refine ⟨⟨i + 1, by omega, nI_1 i, ?_, ?_, ?_, ?_, rfl, fun j hj => ?_, ?_, fun k j h1 h2 => ?_, ?_, fun j hj => ?_⟩, zz_down2 (i := i) (n := 9) (by omega) (by omega)⟩
      · rw [zk_at_1, ← eW]
      · rw [zk_at_3, ← eW]
      · rw [hR1]
      · rw [eW]; rfl
      · by_cases e : j = i
        · rw [e]; exact c1
        · exact hal j (by omega)
      · rw [zk_at_1, ← eW]; omega
      · rw [zu_k2 (by omega), zu_k h1]; exact hf k j h1 h2
      · rw [zu_e]; exact nI_1 i
      · rw [zu_k (by omega)]
        by_cases e : j = i
        · rw [e, zu_e, eW]
        · rw [zu_i e]; exact hJ7 j (by omega)
    refine ⟨fun y4 y10 y11 => (∃ j : Nat, j ≤ W ∧ y11 = nI j ∧ y10 = (-9 : Int32) ∧ zt_sum j Q ≤ R ∧ y4 = lN (R - zt_sum j Q)) ∨ (y11 = nI (W + 1) ∧ y10 = nI W ∧ y4 = lN (R - zt_sum W Q)), fun _ _ y11 => 9 - y11.toNatClampNeg, Or.inl ⟨0, by omega, rfl, rfl, Nat.zero_le _, ?_⟩, ?_⟩
    · rw [eR]; rfl
    rintro y4 y10 y11 (⟨j, hj, rfl, rfl, hsum, rfl⟩ | ⟨rfl, rfl, rfl⟩)
    · unfold zp_X3_walk_49b
      have q9 : ¬ (0 : Int32) ≤ -9 := by decide
      refine pk_le nw j (fun c2 => absurd c2 (by omega)) (fun c2 => ⟨fun z => absurd z q9, fun _ => ?_⟩) (hx := cJ.2.1)
      refine zs_endsOf cJ eJ (by omega) (by omega) hsb (by omega) ?_
      rw [hQd j (by omega), ← eQ]
      have hb := hQb j (by omega)
      rw [← eQ] at hb
      have hs1 : zt_sum (j + 1) Q = zt_sum j Q + Q j := rfl
      refine zn_lle (by omega) (by omega) (fun c3 => ?_) (fun c3 => ?_)
      · rw [lN_sub c3]
        rintro _ rfl _ rfl
        have : j ≠ W := fun e => by subst e; omega
        exact ⟨Or.inl ⟨j + 1, by omega, nI_1 j, rfl, by omega, by rw [hs1, Nat.sub_add_eq]⟩, zz_down (n := 9) (by omega) (by omega)⟩
      · rintro _ rfl
        have e : j = W := by
          by_cases e : j = W
          · exact e
          · have := zt_mono_n (f := Q) (show j + 1 ≤ W by omega)
            omega
        subst e
        exact ⟨Or.inr ⟨nI_1 j, rfl, rfl⟩, zz_down (n := 9) (by omega) (by omega)⟩
    · unfold zp_X3_walk_49b
      refine ⟨fun _ => last, fun _ => ⟨fun _ => last, fun z => absurd ((nI_leI (a := 0) (by omega) (by omega)).mpr (by omega)) z⟩⟩
theorem zs_find {I : zz_I} {L : zz_L} {P : zz_I → zz_L → Prop} {um rank : Nat} (hc : zk_ch I un nw sp fo om') (hop : zk_op un nw sp fo op om') (he : zk_en un nw sp wt op fo om' I L) (hin : ∀ u w, w < nw → op u w = true → u + sp w ≤ un) (hg : ∀ a w, a < nw → g a w = fo a w) (hg8 : ∀ w, g 8 w = true) (h378 : I 37 8 = nI um) (hu256 : um < 256) (hum : ∀ w, (om' 0).testBit w = true → um.testBit w = true) (hr : rank < zk_A un nw sp op fo) (hr2 : rank < 2 ^ 62) (h : ∀ (J : zz_I) (t n : Nat), (∀ k j, k ≠ 47 → ¬ (k = 44 ∧ (j = 3 ∨ j = 4)) → J k j = I k j) → zk_isW un nw sp wt op fo rank t → 1 ≤ t → zk_fin un nw sp wt op fo g t (rank - zk_U un nw sp wt op fo t) n → n ≤ 8 → J 44 4 = nI t → J 44 3 = nI n → (∀ j, j < n → J 47 j = nI (zk_wd un nw sp wt op fo g t (rank - zk_U un nw sp wt op fo t) j)) → P J L) : zp_X3_find (lN rank) P I L := by
  obtain ⟨c6, c7, h24, h8, hw, hm, hin2⟩ := id hc
  have hsp : ∀ w, w < nw → 2 ≤ sp w := fun w hw' => (hw w hw').2.1
  have hw1 : ∀ w, w < nw → 1 ≤ wt w := fun w hw' => (he.2.1 w hw').2.1
  have hw9 : ∀ w, w < nw → wt w ≤ 9 := fun w hw' => (he.2.1 w hw').2.2
  rintro _ rfl _ rfl
  obtain ⟨I0, eI0⟩ : ∃ I0, I0 = zz_up (zz_up I 44 4 (0 : Int32)) 44 3 (0 : Int32) := ⟨_, rfl⟩
  have f0 : ∀ k j, ¬ (k = 44 ∧ (j = 3 ∨ j = 4)) → I0 k j = I k j := fun k j hk => by
    rw [eI0, zu_k2 (by omega), zu_k2 (by omega)]
  have f3 : I0 44 3 = 0 := by rw [eI0]; exact zu_e
  have f4 : I0 44 4 = 0 := by rw [eI0, zu_i (by omega)]; exact zu_e
  rw [← eI0]
  clear eI0
  have go : ∀ (J : zz_I) (s : Nat), (∀ k j, ¬ (k = 44 ∧ (j = 3 ∨ j = 4)) → J k j = I k j) → J 44 3 = 0 → J 44 4 = nI s → 1 ≤ s → zk_isW un nw sp wt op fo rank s → zp_X3_find_68 P (lN (rank - zk_U un nw sp wt op fo s)) J L := by
    intro J s jf j3 j4 hs1 hW
    have cJ := zk_ch_fr (J := J) (fun k j h1 h2 => jf k j (by omega)) hc
    have eJ := zk_en_fr (J := J) (fun k j h1 => jf k j (by omega)) he
    have hWs := hW
    obtain ⟨a1, a2, a3⟩ := hWs
    have h0 : rank - zk_U un nw sp wt op fo s < zk_HV un nw sp wt op fo g 0 8 s := by rw [zk_HV_W hg8]; omega
    refine zs_walk cJ hop eJ hin hg hg8 ((jf 37 8 (by omega)).trans h378) hu256 hum a1 h0 (by omega) j4 j3 (fun K n kf hfin hn k3 k7 => ?_)
    refine h K s n (fun k j h1 h2 => ?_) hW hs1 hfin hn ?_ k3 k7
    · rw [kf k j h1 (by omega)]; exact jf k j h2
    · rw [kf 44 4 (by omega) (by omega)]; exact j4
  refine ⟨fun y4 y6 J M => L = M ∧ (∀ k j, ¬ (k = 44 ∧ (j = 3 ∨ j = 4)) → J k j = I k j) ∧ J 44 3 = 0 ∧ ∃ t : Nat, t ≤ 72 ∧ y6 = nI t ∧ ((J 44 4 = 0 ∧ zk_U un nw sp wt op fo t ≤ rank ∧ y4 = lN (rank - zk_U un nw sp wt op fo t)) ∨ ∃ s, 1 ≤ s ∧ zk_isW un nw sp wt op fo rank s ∧ J 44 4 = nI s ∧ y4 = lN (rank - zk_U un nw sp wt op fo s)), fun _ y6 _ _ => y6.toNatClampNeg, ⟨rfl, f0, f3, 72, by omega, rfl, Or.inl ⟨f4, by rw [zk_U_72]; omega, by rw [zk_U_72]; rfl⟩⟩, ?_⟩
  rintro y4 y6 J M ⟨rfl, jf, j3, t, ht, rfl, hJ⟩
  unfold zp_X3_find_17b
  rcases hJ with ⟨j4, hU, rfl⟩ | ⟨s, hs1, hW, j4, rfl⟩
  · cases t with
    | zero =>
      have h1 := zk_U_all (op := op) (fo := fo) h24 hsp hw9
      have h2 := zk_W_0 (un := un) (sp := sp) (op := op) (fo := fo) hw1
      omega
    | succ t =>
      refine pk_le (t + 1) 0 (fun c => absurd c (by omega)) (fun _ => ⟨fun z => absurd j4 z, fun _ => ?_⟩)
      have cJ := zk_ch_fr (J := J) (fun k j h1 h2 => jf k j (by omega)) hc
      have eJ := zk_en_fr (J := J) (fun k j h1 => jf k j (by omega)) he
      have hWb := zk_W_bd (wt := wt) (op := op) (fo := fo) (t := t + 1) h8 h24 hsp
      have hst := zk_U_step (un := un) (nw := nw) (sp := sp) (wt := wt) (op := op) (fo := fo) (t := t) (by omega)
      have dn : (nI (t + 1) + (-1 : Int32)).toNatClampNeg < (nI (t + 1)).toNatClampNeg := by
        rw [pk_m1, zn_cl (by omega), zn_cl (by omega)]; omega
      refine zs_cww cJ hop eJ (by omega) (zn_lle (by omega) (by omega) (fun c => ?_) (fun c => ?_))
      · rw [lN_sub c]
        rintro _ rfl _ rfl
        exact ⟨⟨rfl, jf, j3, t, by omega, pk_m1 t, Or.inl ⟨j4, by omega, by rw [hst, Nat.sub_add_eq]⟩⟩, dn⟩
      · rintro _ rfl _ rfl
        refine ⟨⟨rfl, fun k j hk => ?_, ?_, t, by omega, pk_m1 t, Or.inr ⟨t + 1, by omega, ⟨ht, hU, by omega⟩, zu_e, rfl⟩⟩, dn⟩
        · rw [zu_k2 (by omega)]; exact jf k j hk
        · rw [zu_i (by omega)]; exact j3
  · have g1 := go J s jf j3 j4 hs1 hW
    have s72 := hW.1
    refine ⟨fun _ => g1, fun _ => ⟨fun _ => g1, fun z => ?_⟩⟩
    rw [j4] at z
    have := zn_j (j := 0) (by omega) (by omega) z
    omega
end
