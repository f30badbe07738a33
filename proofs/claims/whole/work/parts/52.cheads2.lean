theorem zs_countHeads {I : zz_I} {L : zz_L} {un nw : Nat} {sp : Nat → Nat} {fo : Nat → Nat → Bool} {om : Nat → Nat} {P : zz_I → zz_L → Prop} (hc : zk_ch I un nw sp fo om) (h : ∀ M : zz_L, (∀ k j, k ≠ 42 → M k j = L k j) → (∀ u w, (om u).testBit w = true → M 42 (u * 8 + w) = lN (zk_H nw sp (fun u w => (om u).testBit w) fo u w)) → P I M) : zp_X0_countHeads P I L := by
  have hc' := hc
  obtain ⟨c6, c7, h24, h8, hw, hm, hin⟩ := hc'
  obtain ⟨op, eop⟩ : ∃ op : Nat → Nat → Bool, op = fun u w => (om u).testBit w := ⟨_, rfl⟩
  have eo : ∀ u w, op u w = (om u).testBit w := fun u w => by rw [eop]
  rw [← eop] at h
  unfold zp_X0_countHeads
  refine zs_fillL2 (by decide) (fun M0 hf0 hb0 => ?_)
  -- the first units
  refine ⟨fun y J M => ∃ i, i ≤ nw ∧ y = nI i ∧ I = J ∧ (∀ k j, k ≠ 42 → M k j = L k j) ∧ (∀ w, w < i → M 42 w = if (om 0).testBit w then 1 else 0) ∧ ∀ j, i ≤ j → j < 200 → M 42 j = 0, fun y _ _ => 8 - y.toNatClampNeg, ⟨0, by omega, rfl, rfl, hf0, fun w hw => absurd hw (by omega), fun j _ hj => hb0 j hj⟩, ?_⟩
  clear hf0 hb0
  rintro y J M ⟨i, hi, rfl, rfl, hf, hb, hz⟩
  unfold zp_X0_countHeads_10b
  refine pk_le nw i (fun c => ?_) (fun c => ?_) (hx := c7)
  · have : nw = i := by omega
    subst this
    have st : ∀ u w, (om u).testBit w = true → M 42 (u * 8 + w) = lN (zk_P nw sp op fo (fun _ _ => false) u w) := by
      intro u w q
      have h1 := hin u w q
      have h2 := (hw w h1.1).2.1
      by_cases e : u = 0
      · subst e
        rw [show 0 * 8 + w = w by omega, hb w h1.1, q]
        rfl
      · rw [hz _ (by omega) (by omega)]
        unfold zk_P
        rw [if_neg e, zt_sum_zero]
        · rfl
        · intro v _; simp
    clear hb hz
    refine ⟨fun y J M => ∃ i, i ≤ un ∧ y = nI i ∧ I = J ∧ (∀ k j, k ≠ 42 → M k j = L k j) ∧ ∀ u w, (om u).testBit w = true → M 42 (u * 8 + w) = lN (zk_P nw sp op fo (fun u _ => decide (u < i)) u w), fun y _ _ => 25 - y.toNatClampNeg, ⟨0, by omega, rfl, rfl, hf, fun u w q => ?_⟩, ?_⟩
    · rw [st u w q]
      congr 1
    clear st hf c hi
    rintro y J M ⟨i, hi, rfl, rfl, hf, hb⟩
    unfold zp_X0_countHeads_46b
    refine pk_le un i (fun c => ?_) (fun c => ?_) (hx := c6)
    · refine h M hf (fun u w q => ?_)
      rw [hb u w q]
      congr 1
      refine zk_P_H (fun v hv hs ho => ?_)
      rw [eo] at ho
      have h1 := hin _ v ho
      have h2 := (hw v h1.1).2.1
      exact decide_eq_true (by omega)
    · refine ⟨fun y J M => ∃ j, j ≤ nw ∧ y = nI j ∧ I = J ∧ (∀ k j, k ≠ 42 → M k j = L k j) ∧ ∀ u w, (om u).testBit w = true → M 42 (u * 8 + w) = lN (zk_P nw sp op fo (fun u v => decide (u < i) || (decide (u = i) && decide (v < j))) u w), fun y _ _ => 8 - y.toNatClampNeg, ⟨0, by omega, rfl, rfl, hf, fun u w q => ?_⟩, ?_⟩
      · rw [hb u w q]
        congr 1
        refine zk_P_congr (fun v _ _ _ _ => ?_)
        simp
      clear hf hb
      rintro y J M ⟨j, hj, rfl, rfl, hf, hb⟩
      unfold zp_X0_countHeads_56b
      refine pk_le nw j (fun c2 => ?_) (fun c2 => ?_) (hx := c7)
      · rintro _ rfl
        refine ⟨⟨i + 1, by omega, nI_1 i, rfl, hf, fun u w q => ?_⟩, zz_down (n := 25) (by omega) (by omega)⟩
        rw [hb u w q]
        congr 1
        refine zk_P_congr (fun v hv _ _ _ => ?_)
        rw [show decide (v < j) = true from decide_eq_true (by omega), Bool.and_true]
        by_cases e1 : u - (sp v + 1) < i
        · simp [e1, show u - (sp v + 1) < i + 1 by omega]
        · by_cases e2 : u - (sp v + 1) = i
          · simp [e2]
          · simp [e1, e2, show ¬ u - (sp v + 1) < i + 1 by omega]
      · obtain ⟨s41, s2, s15, s40⟩ := hw j c2
        have oi := hm i (by omega)
        have stay : ((om i).testBit j = true → ¬ i + sp j + 1 ≤ un) → ∀ v113 : Int32, v113 = nI j + 1 → (∃ j2, j2 ≤ nw ∧ v113 = nI j2 ∧ I = I ∧ (∀ k j, k ≠ 42 → M k j = L k j) ∧ ∀ u w, (om u).testBit w = true → M 42 (u * 8 + w) = lN (zk_P nw sp op fo (fun u v => decide (u < i) || (decide (u = i) && decide (v < j2))) u w)) ∧ 8 - v113.toNatClampNeg < 8 - (nI j).toNatClampNeg := by
          rintro q _ rfl
          refine ⟨⟨j + 1, by omega, nI_1 j, rfl, hf, fun u w r => ?_⟩, zz_down (n := 8) (by omega) (by omega)⟩
          rw [hb u w r]
          congr 1
          refine zk_P_congr (fun v hv h1 h2 h3 => ?_)
          have hu := hin u w r
          by_cases e : u - (sp v + 1) = i ∧ v = j
          · obtain ⟨e1, rfl⟩ := e
            rw [eo, e1] at h2
            exact absurd (show i + sp v + 1 ≤ un by omega) (q h2)
          · congr 1
            by_cases e2 : u - (sp v + 1) = i
            · rw [show decide (v < j + 1) = decide (v < j) from decide_eq_decide.mpr (by omega)]
            · simp [e2]
        refine zs_isOpen oi.1 oi.2 (by omega) (by omega) (zb_br (fun q => stay (fun r => ?_)) (fun q => ?_))
        · rw [q] at r; cases r
        · refine zs_nextUnit s41 (by omega) ?_
          rw [c6]
          refine pk_lt un (i + sp j + 1) (fun c3 => stay (fun _ => by omega)) (fun c3 => ?_)
          rw [show nI i * (8 : Int32) = nI (i * 8) from pk_mul i 8, nI_add, zn_cl (n := i * 8 + j) (by omega)]
          refine ⟨vp_in_nI (by omega) (by decide), ?_⟩
          refine zs_nextUnit s41 (by omega) ⟨vp_in_nI (by omega) (by decide), ?_⟩
          have e40 : I 40 (nI j).toNatClampNeg = nI (zy_mk nw (fo j)) := by rw [zn_cl (by omega)]; exact s40
          rw [e40]
          refine zs_passOn hc (by omega) (fun M2 f2 v2 b2 => ?_)
          rintro _ rfl
          refine ⟨⟨j + 1, by omega, nI_1 j, rfl, fun k j hk => (f2 k j hk).trans (hf k j hk), fun u w r => ?_⟩, zz_down (n := 8) (by omega) (by omega)⟩
          have hu := hin u w r
          have hH : M 42 (i * 8 + j) = lN (zk_H nw sp op fo i j) := by
            rw [hb i j q]
            congr 1
            refine zk_P_H (fun v hv h1 h2 => ?_)
            simp only [Bool.or_eq_true, decide_eq_true_eq]
            exact Or.inl (by omega)
          have hsame : ¬ (u = i + sp j + 1 ∧ fo j w = true) → zk_P nw sp op fo (fun u v => decide (u < i) || (decide (u = i) && decide (v < j))) u w = zk_P nw sp op fo (fun u v => decide (u < i) || (decide (u = i) && decide (v < j + 1))) u w := by
            intro hne
            refine zk_P_congr (fun v hv h1 h2 h3 => ?_)
            congr 1
            by_cases e2 : u - (sp v + 1) = i
            · by_cases e3 : v = j
              · subst e3
                exact absurd ⟨by omega, h3⟩ hne
              · rw [show decide (v < j + 1) = decide (v < j) from decide_eq_decide.mpr (by omega)]
            · simp [e2]
          by_cases e : u = i + sp j + 1
          · subst e
            rw [b2 w hu.1, r, Bool.true_and]
            cases f : fo j w
            · simp only [Bool.false_eq_true, if_false]
              rw [hb _ w r, hsame (fun z => by rw [f] at z; exact Bool.noConfusion z.2)]
            · simp only [if_true]
              rw [hb _ w r, hH, lN_add]
              congr 1
              refine (zk_P_step c2 (by rw [eo]; exact q) f ?_ ?_ (fun u v hne => ?_)).symm
              · simp
              · simp
              · congr 1
                by_cases e2 : u = i
                · by_cases e3 : v = j
                  · exact absurd ⟨e2, e3⟩ hne
                  · rw [show decide (v < j + 1) = decide (v < j) from decide_eq_decide.mpr (by omega)]
                · simp [e2]
          · rw [v2 u w e (by omega), hb u w r, hsame (fun z => e z.1)]
  · have o0 := hm 0 (by omega)
    have hix : vp_in (nI i) 200 := vp_in_nI (by omega) (by decide)
    have go : ∀ x : Int64, x = (if (om 0).testBit i then 1 else 0) → ∀ L37 : zz_L, L37 = zz_up M 42 (nI i).toNatClampNeg x → (∀ v38 : Int32, v38 = nI i + (1 : Int32) → ((∃ i2, i2 ≤ nw ∧ v38 = nI i2 ∧ I = I ∧ (∀ k j, k ≠ 42 → L37 k j = L k j) ∧ (∀ w, w < i2 → L37 42 w = if (om 0).testBit w then 1 else 0) ∧ ∀ j, i2 ≤ j → j < 200 → L37 42 j = 0) ∧ 8 - v38.toNatClampNeg < 8 - (nI i).toNatClampNeg)) := by
      intro x ex
      rw [zn_cl (n := i) (by omega)]
      rintro _ rfl _ rfl
      refine ⟨⟨i + 1, by omega, nI_1 i, rfl, fun k j hk => (zu_k hk).trans (hf k j hk), fun w hw2 => ?_, fun j h1 h2 => (zu_i (by omega)).trans (hz j (by omega) h2)⟩, zz_down2 (n := 8) (by omega) (by omega)⟩
      by_cases e : w = i
      · subst e; rw [zu_e, ex]
      · rw [zu_i e]; exact hb w (by omega)
    refine zs_isOpen (u := 0) o0.1 o0.2 (by omega) (by omega) (zb_br (fun q => ⟨hix, go 0 (by rw [q]; rfl)⟩) (fun q => ⟨hix, go 1 (by rw [q]; rfl)⟩))
theorem zs_countThrough {I : zz_I} {L : zz_L} {un nw : Nat} {sp : Nat → Nat} {fo : Nat → Nat → Bool} {om : Nat → Nat} {H N : Nat → Nat → Nat} {P : Int64 → Prop} (hc : zk_ch I un nw sp fo om) (hH : ∀ u w, (om u).testBit w = true → L 42 (u * 8 + w) = lN (H u w)) (hN : ∀ u w, (om u).testBit w = true → L 43 (u * 8 + w) = lN (N u w)) {u w : Nat} (hu : u < 25) (hw : w < 8) (h : P (lN (if (om u).testBit w then H u w * N u w else 0))) : zp_X0_countThrough (nI u) (nI w) P I L := by
  have ou := hc.2.2.2.2.2.1 u hu
  unfold zp_X0_countThrough
  rw [show nI u * (8 : Int32) = nI (u * 8) from pk_mul u 8, nI_add]
  rintro _ rfl
  refine zs_isOpen ou.1 ou.2 hu hw (zb_br (fun q => ?_) (fun q => ?_))
  · rw [q] at h; exact h
  · rw [q, if_pos rfl] at h
    rw [zn_cl (by omega), hH u w q, hN u w q, lN_mul]
    exact ⟨vp_in_nI (by omega) (by decide), vp_in_nI (by omega) (by decide), h⟩
theorem zs_countSign {I : zz_I} {L : zz_L} {lx : Nat → Nat → Nat} {un : Nat} {fo : Nat → Nat → Bool} {om : Nat → Nat} {H N : Nat → Nat → Nat} {P : Int64 → Prop} (hl : zx_lexOK lx) (lC : zx_lexC 14 I lx) (hc : zk_ch I un (lx 0 0) (zx_sp lx) fo om) (hH : ∀ u w, (om u).testBit w = true → L 42 (u * 8 + w) = lN (H u w)) (hN : ∀ u w, (om u).testBit w = true → L 43 (u * 8 + w) = lN (N u w)) {t x : Nat} (ht : t < un) (hx : x < 7) (h : P (lN (zt_sum (t + 1) (fun u => zt_sum (lx 0 0) (fun w => if (om u).testBit w && zx_at lx w (t - u) x then H u w * N u w else 0))))) : zp_X0_countSign (nI t) (nI x) P I L := by
  have hc' := hc
  obtain ⟨c6, c7, h24, h8, hw, hm, hin⟩ := hc'
  refine ⟨fun y4 y6 => ∃ i, i ≤ t + 1 ∧ y6 = nI i ∧ y4 = lN (zt_sum i (fun u => zt_sum (lx 0 0) (fun w => if (om u).testBit w && zx_at lx w (t - u) x then H u w * N u w else 0))), fun _ y6 => 25 - y6.toNatClampNeg, ⟨0, by omega, rfl, rfl⟩, ?_⟩
  rintro y4 y6 ⟨i, hi, rfl, rfl⟩
  unfold zp_X0_countSign_6b
  refine pk_lt t i (fun c => ?_) (fun c => ?_)
  · have : i = t + 1 := by omega
    subst this; exact h
  · rw [c6]
    refine pk_le un i (fun c1 => by omega) (fun c1 => ?_)
    obtain ⟨S, eS⟩ : ∃ S, S = zt_sum i (fun u => zt_sum (lx 0 0) (fun w => if (om u).testBit w && zx_at lx w (t - u) x then H u w * N u w else 0)) := ⟨_, rfl⟩
    rw [← eS]
    refine ⟨fun y4 y7 => ∃ j, j ≤ lx 0 0 ∧ y7 = nI j ∧ y4 = lN (S + zt_sum j (fun w => if (om i).testBit w && zx_at lx w (t - i) x then H i w * N i w else 0)), fun _ y7 => 8 - y7.toNatClampNeg, ⟨0, by omega, rfl, rfl⟩, ?_⟩
    rintro y4 y7 ⟨j, hj, rfl, rfl⟩
    unfold zp_X0_countSign_24b
    refine pk_le (lx 0 0) j (fun c2 => ?_) (fun c2 => ?_) (hx := c7)
    · rintro _ rfl
      refine ⟨⟨i + 1, by omega, nI_1 i, ?_⟩, zz_down (n := 25) (by omega) (by omega)⟩
      have : j = lx 0 0 := by omega
      subst this
      rw [eS]; rfl
    · have oi := hm i (by omega)
      have stay : ((om i).testBit j && zx_at lx j (t - i) x) = false → ∀ v71 : Int32, v71 = nI j + 1 → (∃ j2, j2 ≤ lx 0 0 ∧ v71 = nI j2 ∧ lN (S + zt_sum j (fun w => if (om i).testBit w && zx_at lx w (t - i) x then H i w * N i w else 0)) = lN (S + zt_sum j2 (fun w => if (om i).testBit w && zx_at lx w (t - i) x then H i w * N i w else 0))) ∧ 8 - v71.toNatClampNeg < 8 - (nI j).toNatClampNeg := by
        rintro q _ rfl
        refine ⟨⟨j + 1, by omega, nI_1 j, ?_⟩, zz_down (n := 8) (by omega) (by omega)⟩
        simp only [zt_sum]; rw [q]; rfl
      refine zs_isOpen oi.1 oi.2 (by omega) (by omega) (zb_br (fun q => stay (by rw [q]; rfl)) (fun q => ?_))
      rw [pk_sub c]
      refine zs_signBehind hl lC c2 (by omega) (fun r hr => ⟨fun z => stay ?_, fun z => ?_⟩)
      · cases s : zx_at lx j (t - i) x
        · rw [Bool.and_false]
        · exact absurd ((hr x hx).mpr s) z
      · have s := (hr x hx).mp z
        refine zs_countThrough hc hH hN (by omega) (by omega) ?_
        rw [lN_add]
        rintro _ rfl _ rfl
        refine ⟨⟨j + 1, by omega, nI_1 j, ?_⟩, zz_down (n := 8) (by omega) (by omega)⟩
        simp only [zt_sum]; rw [q, s, Nat.add_assoc]; rfl
