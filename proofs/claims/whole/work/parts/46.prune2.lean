def zk_p2 (I J : zz_I) (om' rm : Nat → Nat) (um : Nat) : Prop := (∀ k j, k ≠ 38 → k ≠ 39 → ¬ (k = 37 ∧ j = 8) → J k j = I k j) ∧ (∀ u, u < 25 → (J 38 u = nI (om' u) ∧ om' u < 256) ∧ J 39 u = nI (rm u) ∧ rm u < 256) ∧ J 37 8 = nI um ∧ um < 256
/-- what prune leaves -/
def zk_pr (un nw : Nat) (sp : Nat → Nat) (fo : Nat → Nat → Bool) (om om' : Nat → Nat) : Prop :=
  (∀ u w, (om' u).testBit w = true → (om u).testBit w = true) ∧ (∀ w, (om 0).testBit w = true → 0 < zk_N un nw sp (fun u w => (om u).testBit w) fo 0 w → (om' 0).testBit w = true) ∧
  ∀ u w v, (om' u).testBit w = true → (om (u + sp w + 1)).testBit v = true → fo w v = true → 0 < zk_N un nw sp (fun u w => (om u).testBit w) fo (u + sp w + 1) v → (om' (u + sp w + 1)).testBit v = true
theorem zs_prune {I : zz_I} {L : zz_L} {un nw : Nat} {sp : Nat → Nat} {fo : Nat → Nat → Bool} {om : Nat → Nat} {P : zz_I → zz_L → Prop} (hc : zk_ch I un nw sp fo om) (h : ∀ (J : zz_I) (om' : Nat → Nat) (um : Nat), (∀ k j, (k < 37 ∨ 39 < k) → J k j = I k j) → zk_ch J un nw sp fo om' → zk_pr un nw sp fo om om' → J 37 8 = nI um → um < 256 → (∀ w, um.testBit w = true ↔ ∃ u, u < un ∧ (om' u).testBit w = true) → P J L) : zp_X0_prune P I L := by
  have hc' := hc
  obtain ⟨c6, c7, h24, h8, hw, hm, hin⟩ := hc'
  refine zs_prune1 hc (fun J1 om1 hp1 hb1 => ?_)
  obtain ⟨hf1, ho1⟩ := hp1
  rintro _ rfl
  refine zs_fill2 (by decide) (fun J2 hf2 hb2 => ?_)
  refine ⟨pk_in 0 25 (by decide), ?_⟩
  rintro J3 e3
  have sub1 : ∀ u w, (om1 u).testBit w = true → (om u).testBit w = true := fun u w q => by
    rw [hb1, Bool.and_eq_true] at q; exact q.1
  have st : zk_p2 I J3 om1 (fun u => if u = 0 then 255 else 0) 0 := by
    refine ⟨fun k j h1 h2 h3 => ?_, fun u hu => ⟨⟨?_, (ho1 u hu).2⟩, ?_, ?_⟩, ?_, by decide⟩
    · rw [e3, zu_k h2, hf2 k j h2, zu_k2 h3]; exact hf1 k j h1
    · rw [e3, zu_k (by omega), hf2 38 u (by omega), zu_k (by omega)]; exact (ho1 u hu).1
    · by_cases q : u = 0
      · subst q; rw [e3]; rfl
      · rw [e3, show (0 : Int32).toNatClampNeg = 0 by decide, zu_i q, hb2 u hu]; simp [q]; rfl
    · show (if u = 0 then 255 else 0) < 256
      split <;> omega
    · rw [e3, zu_k (by omega), hf2 37 8 (by omega), zu_e]; rfl
  refine ⟨fun y J M => ∃ (i : Nat) (om' rm : Nat → Nat) (um : Nat), i ≤ un ∧ y = nI i ∧ L = M ∧ zk_p2 I J om' rm um ∧ (∀ u w, (om' u).testBit w = true → (om1 u).testBit w = true) ∧ (∀ u, i ≤ u → om' u = om1 u) ∧ rm 0 = 255 ∧ (∀ u w, u < i → (om1 u).testBit w = true → (rm u).testBit w = true → (om' u).testBit w = true) ∧ (∀ u w v, u < i → (om' u).testBit w = true → u + sp w + 1 ≤ un → v < nw → fo w v = true → (rm (u + sp w + 1)).testBit v = true) ∧ ∀ w, um.testBit w = true ↔ ∃ u, u < i ∧ (om' u).testBit w = true, fun y _ _ => 25 - y.toNatClampNeg, ⟨0, om1, _, 0, by omega, rfl, rfl, st, fun u w q => q, fun u _ => rfl, rfl, fun u w q => absurd q (by omega), fun u w v q => absurd q (by omega), fun w => ⟨fun q => by simp at q, fun ⟨u, hu, _⟩ => absurd hu (by omega)⟩⟩, ?_⟩
  clear st e3 hb2 hf2
  rintro y J M ⟨i, om', rm, um, hi, rfl, rfl, ⟨hf, ho, hum, hul⟩, ha, hb, hr0, hd, he, hu⟩
  unfold zp_X0_prune_89b
  have k6 : J 37 6 = nI un := (hf 37 6 (by omega) (by omega) (by omega)).trans c6
  have k7 : J 37 7 = nI nw := (hf 37 7 (by omega) (by omega) (by omega)).trans c7
  refine pk_le un i (fun c => ?_) (fun c => ?_) (hx := k6)
  · have : i = un := by omega
    subst this
    refine h J om' um (fun k j hk => hf k j (by omega) (by omega) (by omega)) ⟨k6, k7, h24, h8, fun w hw2 => ?_, fun u hu2 => (ho u hu2).1, fun u w q => hin u w (sub1 u w (ha u w q))⟩ ⟨fun u w q => sub1 u w (ha u w q), fun w q1 q2 => ?_, fun u w v q1 q2 q3 q4 => ?_⟩ hum hul hu
    · rw [hf 41 w (by omega) (by omega) (by omega), hf 40 w (by omega) (by omega) (by omega)]; exact hw w hw2
    · have h1 := hin 0 w q1
      have h2 := (hw w h1.1).2.1
      refine hd 0 w (by omega) ?_ ?_
      · rw [hb1, q1]; simpa using q2
      · rw [hr0, zy_255]; simp; omega
    · have h1 := hin _ _ (sub1 _ _ (ha u w q1))
      have h2 := hin _ _ q2
      have h3 := (hw v h2.1).2.1
      refine hd _ v (by omega) ?_ (he u w v (by omega) q1 (by omega) h2.1 q3)
      rw [hb1, q2]; simpa using q4
  · have oi := ho i (by omega)
    have hl2 := zy_and_lt (a := om' i) oi.2.2
    refine ⟨vp_in_nI (by omega) (by decide), vp_in_nI (by omega) (by decide), vp_in_nI (by omega) (by decide), ?_⟩
    rw [zn_cl (by omega), oi.1.1, oi.2.1, zy_and oi.1.2 oi.2.2]
    rintro J4 e4
    refine ⟨vp_in_nI (by omega) (by decide), ?_⟩
    have v38 : J4 38 i = nI (om' i &&& rm i) := by rw [e4, zu_e]
    have v37 : J4 37 8 = nI um := by rw [e4, zu_k (by omega)]; exact hum
    rw [v38, v37, zy_or hul hl2]
    rintro J5 e5
    have st : zk_p2 I J5 (zy_up om' i (om' i &&& rm i)) rm (um ||| (om' i &&& rm i)) := by
      refine ⟨fun k j h1 h2 h3 => ?_, fun u hu => ⟨?_, ?_⟩, ?_, zy_or_lt hul hl2⟩
      · rw [e5, zu_k2 h3, e4, zu_k h1]; exact hf k j h1 h2 h3
      · rw [e5, zu_k (by omega), e4]
        by_cases q : u = i
        · subst q; rw [zu_e, zy_up_e]; exact ⟨rfl, hl2⟩
        · rw [zu_i q, zy_up_n q]; exact (ho u hu).1
      · rw [e5, zu_k (by omega), e4, zu_k (by omega)]; exact (ho u hu).2
      · rw [e5, zu_e]
    have ha' : ∀ u w, (zy_up om' i (om' i &&& rm i) u).testBit w = true → (om1 u).testBit w = true := by
      intro u w q
      by_cases e : u = i
      · subst e
        rw [zy_up_e, Nat.testBit_and, Bool.and_eq_true] at q
        exact ha u w q.1
      · rw [zy_up_n e] at q; exact ha u w q
    have hb' : ∀ u, i + 1 ≤ u → zy_up om' i (om' i &&& rm i) u = om1 u := fun u q => by rw [zy_up_n (by omega)]; exact hb u (by omega)
    have hd' : ∀ u w, u < i + 1 → (om1 u).testBit w = true → (rm u).testBit w = true → (zy_up om' i (om' i &&& rm i) u).testBit w = true := by
      intro u w q1 q2 q3
      by_cases e : u = i
      · subst e
        rw [zy_up_e, Nat.testBit_and, q3, hb u (Nat.le_refl _), q2]; rfl
      · rw [zy_up_n e]; exact hd u w (by omega) q2 q3
    have he' : ∀ u w v, u < i → (zy_up om' i (om' i &&& rm i) u).testBit w = true → u + sp w + 1 ≤ un → v < nw → fo w v = true → (rm (u + sp w + 1)).testBit v = true := by
      intro u w v q1 q2
      rw [zy_up_n (by omega)] at q2; exact he u w v q1 q2
    have hu' : ∀ w, (um ||| (om' i &&& rm i)).testBit w = true ↔ ∃ u, u < i + 1 ∧ (zy_up om' i (om' i &&& rm i) u).testBit w = true := by
      intro w
      rw [Nat.testBit_or, Bool.or_eq_true, hu]
      constructor
      · rintro (⟨u, q1, q2⟩ | q)
        · exact ⟨u, by omega, by rw [zy_up_n (by omega)]; exact q2⟩
        · exact ⟨i, by omega, by rw [zy_up_e]; exact q⟩
      · rintro ⟨u, q1, q2⟩
        by_cases e : u = i
        · subst e; rw [zy_up_e] at q2; exact Or.inr q2
        · rw [zy_up_n e] at q2; exact Or.inl ⟨u, by omega, q2⟩
    generalize zy_up om' i (om' i &&& rm i) = om2 at st ha' hb' hd' he' hu'
    generalize um ||| (om' i &&& rm i) = um2 at st hu'
    clear e5 e4 hd he hu v38 v37
    refine ⟨fun y J M => ∃ (j : Nat) (rm : Nat → Nat), j ≤ nw ∧ y = nI j ∧ L = M ∧ zk_p2 I J om2 rm um2 ∧ rm 0 = 255 ∧ (∀ u w, u < i + 1 → (om1 u).testBit w = true → (rm u).testBit w = true → (om2 u).testBit w = true) ∧ (∀ u w v, (u < i ∨ (u = i ∧ w < j)) → (om2 u).testBit w = true → u + sp w + 1 ≤ un → v < nw → fo w v = true → (rm (u + sp w + 1)).testBit v = true), fun y _ _ => 8 - y.toNatClampNeg, ⟨0, rm, by omega, rfl, rfl, st, hr0, hd', fun u w v q => he' u w v (by omega)⟩, ?_⟩
    clear hd' he' st hr0
    rintro y K M ⟨j, rn, hj, rfl, rfl, ⟨kf, ko, kum, kul⟩, kr0, kd, ke⟩
    unfold zp_X0_prune_129b
    have k7 : K 37 7 = nI nw := (kf 37 7 (by omega) (by omega) (by omega)).trans c7
    have k6 : K 37 6 = nI un := (kf 37 6 (by omega) (by omega) (by omega)).trans c6
    refine pk_le nw j (fun c2 => ?_) (fun c2 => ?_) (hx := k7)
    · rintro _ rfl
      refine ⟨⟨i + 1, om2, rn, um2, by omega, nI_1 i, rfl, ⟨kf, ko, kum, kul⟩, ha', hb', kr0, kd, fun u w v q1 q2 => ?_, hu'⟩, zz_down (n := 25) (by omega) (by omega)⟩
      have := (hin _ _ (sub1 _ _ (ha' u w q2))).1
      exact ke u w v (by omega) q2
    · obtain ⟨s41, s2, s15, s40⟩ := hw j c2
      have oi := ko i (by omega)
      have n41 : K 41 j = nI (sp j) := (kf 41 j (by omega) (by omega) (by omega)).trans s41
      have n40 : K 40 j = nI (zy_mk nw (fo j)) := (kf 40 j (by omega) (by omega) (by omega)).trans s40
      have stay : ((om2 i).testBit j = true → ¬ i + sp j + 1 ≤ un) → ∀ v179 : Int32, v179 = nI j + 1 → (∃ (j2 : Nat) (rm : Nat → Nat), j2 ≤ nw ∧ v179 = nI j2 ∧ L = L ∧ zk_p2 I K om2 rm um2 ∧ rm 0 = 255 ∧ (∀ u w, u < i + 1 → (om1 u).testBit w = true → (rm u).testBit w = true → (om2 u).testBit w = true) ∧ (∀ u w v, (u < i ∨ (u = i ∧ w < j2)) → (om2 u).testBit w = true → u + sp w + 1 ≤ un → v < nw → fo w v = true → (rm (u + sp w + 1)).testBit v = true)) ∧ 8 - v179.toNatClampNeg < 8 - (nI j).toNatClampNeg := by
        rintro q _ rfl
        refine ⟨⟨j + 1, rn, by omega, nI_1 j, rfl, ⟨kf, ko, kum, kul⟩, kr0, kd, fun u w v q1 q2 q3 => ?_⟩, zz_down (by omega) (by omega)⟩
        by_cases e : u = i ∧ w = j
        · obtain ⟨rfl, rfl⟩ := e
          exact absurd q3 (q q2)
        · exact ke u w v (by omega) q2 q3
      refine zs_isOpen oi.1.1 oi.1.2 (by omega) (by omega) (zb_br (fun q => stay (fun r => ?_)) (fun q => ?_))
      · rw [q] at r; cases r
      · refine zs_nextUnit n41 (by omega) ?_
        rw [k6]
        refine pk_lt un (i + sp j + 1) (fun c3 => stay (fun _ => by omega)) (fun c3 => ?_)
        refine zs_nextUnit n41 (by omega) ?_
        have on := ko (i + sp j + 1) (by omega)
        refine ⟨vp_in_nI (by omega) (by decide), vp_in_nI (by omega) (by decide), vp_in_nI (by omega) (by decide), ?_⟩
        rw [zn_cl (by omega), zn_cl (by omega), on.2.1, n40, zy_or on.2.2 (zy_mk_256 h8)]
        rintro _ rfl _ rfl
        refine ⟨⟨j + 1, zy_up rn (i + sp j + 1) (rn (i + sp j + 1) ||| zy_mk nw (fo j)), by omega, nI_1 j, rfl, ⟨fun k j2 h1 h2 h3 => (zu_k h2).trans (kf k j2 h1 h2 h3), fun u hu => ⟨?_, ?_⟩, (zu_k (by omega)).trans kum, kul⟩, by rw [zy_up_n (by omega)]; exact kr0, fun u w q1 => ?_, fun u w v q1 q2 q3 q4 q5 => ?_⟩, zz_down (n := 8) (by omega) (by omega)⟩
        · rw [zu_k (by omega)]; exact (ko u hu).1
        · by_cases e : u = i + sp j + 1
          · subst e
            rw [zu_e, zy_up_e]; exact ⟨rfl, zy_or_lt on.2.2 (zy_mk_256 h8)⟩
          · rw [zu_i e, zy_up_n e]; exact (ko u hu).2
        · rw [zy_up_n (by omega)]; exact kd u w q1
        · by_cases e : u + sp w + 1 = i + sp j + 1
          · rw [e, zy_up_e, Nat.testBit_or]
            by_cases e2 : u = i ∧ w = j
            · obtain ⟨rfl, rfl⟩ := e2
              rw [zy_mk_bit, q5]; simp [q4]
            · have := ke u w v (by omega) q2 q3 q4 q5
              rw [e] at this; rw [this]; rfl
          · rw [zy_up_n e]
            refine ke u w v ?_ q2 q3 q4 q5
            rcases q1 with q1 | ⟨q1, q6⟩
            · exact Or.inl q1
            · refine Or.inr ⟨q1, ?_⟩
              rcases Nat.lt_succ_iff_lt_or_eq.mp q6 with z | z
              · exact z
              · subst z; subst q1; exact absurd rfl e
