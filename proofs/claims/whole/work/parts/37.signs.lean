theorem zx_put_succ {pg : Nat → Nat} {u x i : Nat} (j : Nat) : zx_put pg u x (i + 1) j = if j = 19 + (u + i) then (if i = 0 then x else 8) else zx_put pg u x i j := by
  unfold zx_put
  by_cases h : j = 19 + (u + i)
  · rw [if_pos h, if_pos (by omega)]
    by_cases hi : i = 0
    · rw [if_pos hi, if_pos (by omega)]
    · rw [if_neg hi, if_neg (by omega)]
  · rw [if_neg h]
    by_cases q : 19 + u ≤ j ∧ j < 19 + u + i
    · rw [if_pos q, if_pos (by omega)]
    · rw [if_neg q, if_neg (by omega)]
theorem zx_gap_succ {pg : Nat → Nat} {u i : Nat} (j : Nat) : zx_gap pg u (i + 1) j = if j = 19 + (u + i) then 7 else zx_gap pg u i j := by
  unfold zx_gap
  by_cases h : j = 19 + (u + i)
  · rw [if_pos h, if_pos (by omega)]
  · rw [if_neg h]
    by_cases q : 19 + u ≤ j ∧ j < 19 + u + i
    · rw [if_pos q, if_pos (by omega)]
    · rw [if_neg q, if_neg (by omega)]
/-- one sign of a page changed, in the class and in the reference -/
theorem zx_pgC_sign {t u v : Nat} {I : zz_I} {lx : Nat → Nat → Nat} {pg pg2 : Nat → Nat} (h8 : lx 0 0 ≤ 8) (h : zx_pgC t I lx pg) (hu : u < pg 0) (e : ∀ j, pg2 j = if j = 19 + u then v else pg j) : zx_pgC t (zz_up I (t + 1) u (nI v)) lx pg2 := by
  obtain ⟨a, b, c, d, f⟩ := h
  have lo : ∀ j, j < 19 → pg2 j = pg j := fun j hj => by rw [e, if_neg (by omega)]
  refine ⟨?_, ?_, fun j hj => ?_, fun w hw => ?_, fun x hx => ?_⟩
  · rw [lo _ (by omega)]; simp only [zz_up]; rw [if_neg (by omega)]; exact a
  · rw [lo _ (by omega)]; simp only [zz_up]; rw [if_neg (by omega)]; exact b
  · rw [lo _ (by omega)]; simp only [zz_up]; rw [if_neg (by omega)]; exact c j hj
  · rw [lo _ (by omega)]; simp only [zz_up]; rw [if_neg (by omega)]; exact d w hw
  · rw [lo 0 (by omega)] at hx
    rw [e]
    by_cases q : x = u
    · subst q; simp [zz_up]
    · rw [if_neg (by omega)]; simp only [zz_up]; rw [if_neg (by omega)]; exact f x hx
theorem zx_pgM_sign {k u v : Nat} {I : zz_I} {lx : Nat → Nat → Nat} {pg pg2 : Nat → Nat} (h8 : lx 0 0 ≤ 8) (h : zx_pgM k 0 I lx pg) (hu : u < pg 0) (e : ∀ j, pg2 j = if j = 19 + u then v else pg j) : zx_pgM k 0 (zz_up I k (19 + u) (nI v)) lx pg2 := by
  obtain ⟨a, b, c, d, f⟩ := h
  have lo : ∀ j, j < 19 → pg2 j = pg j := fun j hj => by rw [e, if_neg (by omega)]
  refine ⟨?_, ?_, fun j hj => ?_, fun w hw => ?_, fun x hx => ?_⟩
  · rw [lo _ (by omega)]; simp only [zz_up]; rw [if_neg (by omega)]; exact a
  · rw [lo _ (by omega)]; simp only [zz_up]; rw [if_neg (by omega)]; exact b
  · rw [lo _ (by omega)]; simp only [zz_up]; rw [if_neg (by omega)]; exact c j hj
  · rw [lo _ (by omega)]; simp only [zz_up]; rw [if_neg (by omega)]; exact d w hw
  · rw [lo 0 (by omega)] at hx
    rw [e]
    by_cases q : x = u
    · subst q; simp [zz_up]
    · rw [if_neg (by omega)]; simp only [zz_up]; rw [if_neg (by omega)]; exact f x hx
theorem zx_put_0 {pg : Nat → Nat} {u x : Nat} : zx_put pg u x 0 = pg := by funext j; unfold zx_put; rw [if_neg (by omega)]
theorem zx_gap_0 {pg : Nat → Nat} {u : Nat} : zx_gap pg u 0 = pg := by funext j; unfold zx_gap; rw [if_neg (by omega)]
theorem zx_put_lo {pg : Nat → Nat} {u x n j : Nat} (h : j < 19) : zx_put pg u x n j = pg j := by unfold zx_put; rw [if_neg (by omega)]
theorem zx_gap_lo {pg : Nat → Nat} {u n j : Nat} (h : j < 19) : zx_gap pg u n j = pg j := by unfold zx_gap; rw [if_neg (by omega)]
theorem zs_putSign {t u x n : Nat} {I : zz_I} {L : zz_L} {lx : Nat → Nat → Nat} {pg : Nat → Nat} {P : zz_I → zz_L → Prop} (hl : zx_lexOK lx) (hp : zx_pgOK lx pg) (pC : zx_pgC t I lx pg) (hn : n ≤ 3) (hu : u + n ≤ pg 0) (h : ∀ J : zz_I, (∀ k j, k ≠ t + 1 → J k j = I k j) → zx_pgC t J lx (zx_put pg u x n) → P J L) : zp_X6_putSign t (nI u) (nI x) (nI n) P I L := by
  have hu24 := hp.1
  refine ⟨fun y J M => ∃ i, i ≤ n ∧ y = nI i ∧ M = L ∧ (∀ k j, k ≠ t + 1 → J k j = I k j) ∧ zx_pgC t J lx (zx_put pg u x i), fun y _ _ => 3 - y.toNatClampNeg, ⟨0, by omega, rfl, rfl, fun _ _ _ => rfl, by rw [zx_put_0]; exact pC⟩, ?_⟩
  rintro y J M ⟨i, hi, rfl, rfl, hf, hJ⟩
  unfold zp_X6_putSign_3b
  refine pk_le n i (fun c => ?_) (fun c => ?_)
  · have : i = n := by omega
    subst this; exact h J hf hJ
  · have e3 : J t 3 = nI (pg 0) := by rw [hf t 3 (by omega)]; exact pC.1
    rw [nI_add]
    refine zs_X6_hasUnit (n := pg 0) (by omega) e3 (fun c => (zn_out (by omega) c (show u + i < pg 0 by omega) rfl).elim) (fun _ _ _ => ⟨fun q => absurd q (by decide), fun _ => ?_⟩)
    have step : ∀ v : Nat, v = (if i = 0 then x else 8) → zx_pgC t (zz_up J (t + 1) (u + i) (nI v)) lx (zx_put pg u x (i + 1)) := fun v hv => zx_pgC_sign hl.1 hJ (by rw [zx_put_lo (by omega)]; omega) (fun j => by rw [zx_put_succ, hv])
    rw [zn_cl (by omega)]
    refine ⟨fun q => ⟨vp_in_nI (by omega) (by decide), ?_⟩, fun q => ⟨vp_in_nI (by omega) (by decide), ?_⟩⟩
    · rintro I39 rfl v40 rfl
      have hi0 : ¬ i = 0 := fun z => q (by rw [z]; rfl)
      refine ⟨⟨i + 1, by omega, nI_1 i, rfl, fun k j hk => ?_, step 8 (by rw [if_neg hi0])⟩, zz_down (n := 3) (by omega) (by decide)⟩
      simp only [zz_up, hk, false_and, if_false]; exact hf k j hk
    · rintro I39 rfl v40 rfl
      have hi0 : i = 0 := zn_j (by omega) (by decide) q
      refine ⟨⟨i + 1, by omega, nI_1 i, rfl, fun k j hk => ?_, step x (by rw [if_pos hi0])⟩, zz_down (n := 3) (by omega) (by decide)⟩
      simp only [zz_up, hk, false_and, if_false]; exact hf k j hk
theorem zs_wearOn {k u : Nat} {I : zz_I} {L : zz_L} {lx : Nat → Nat → Nat} {pg : Nat → Nat} {P : zz_I → zz_L → Prop} (hl : zx_lexOK lx) (hp : zx_pgOK lx pg) (lM : zx_lexM 5 2 I lx) (hk : 7 < k) (pM : zx_pgM k 0 I lx pg) (hu : u < pg 0) (hs : pg (19 + u) < 7) (h : ∀ J : zz_I, (∀ q j, q ≠ k → J q j = I q j) → zx_pgM k 0 J lx (zx_gap pg u (lx 1 (pg (19 + u)))) → P J L) : zp_X8_wearOn k (nI u) P I L := by
  have hu24 := hp.1
  have e1 := pM.2.2.2.2 u hu
  rw [Nat.zero_add] at e1
  have hw := zx_wd_bd hl hs
  have hfit := (hp.2.2.2.2.2 u hu hs).1
  obtain ⟨n, en⟩ : ∃ n, n = lx 1 (pg (19 + u)) := ⟨_, rfl⟩
  unfold zp_X8_wearOn
  rw [show (19 : Int32) + nI u = nI (19 + u) from nI_add 19 u, zn_cl (by omega), e1, zn_cl (by omega), lM.2.1 _ hs]
  refine ⟨vp_in_nI (by omega) (by decide), vp_in_nI (by omega) (by decide), ?_⟩
  rintro v11 rfl
  rw [← en] at hw hfit h ⊢
  refine ⟨fun y J M => ∃ i, i ≤ n ∧ y = nI i ∧ M = L ∧ (∀ q j, q ≠ k → J q j = I q j) ∧ zx_pgM k 0 J lx (zx_gap pg u i), fun y _ _ => 3 - y.toNatClampNeg, ⟨0, by omega, rfl, rfl, fun _ _ _ => rfl, by rw [zx_gap_0]; exact pM⟩, ?_⟩
  rintro y J M ⟨i, hi, rfl, rfl, hf, hJ⟩
  unfold zp_X8_wearOn_15b
  refine pk_le n i (fun c => ?_) (fun c => ?_)
  · have : i = n := by omega
    subst this; exact h J hf hJ
  · rw [show (19 : Int32) + nI u = nI (19 + u) from nI_add 19 u, nI_add, zn_cl (by omega), show 19 + u + i = 19 + (u + i) by omega]
    refine ⟨vp_in_nI (by omega) (by decide), ?_⟩
    rintro I31 rfl v32 rfl
    refine ⟨⟨i + 1, by omega, nI_1 i, rfl, fun q j hq => ?_, ?_⟩, zz_down (n := 3) (by omega) (by decide)⟩
    · simp only [zz_up, hq, false_and, if_false]; exact hf q j hq
    · exact zx_pgM_sign hl.1 hJ (by rw [zx_gap_lo (by omega)]; omega) (fun j => zx_gap_succ j)
theorem zs_carveOn {k u x : Nat} {I : zz_I} {L : zz_L} {lx : Nat → Nat → Nat} {pg : Nat → Nat} {P : zz_I → zz_L → Prop} (hl : zx_lexOK lx) (hp : zx_pgOK lx pg) (lM : zx_lexM 5 2 I lx) (hk : 7 < k) (pM : zx_pgM k 0 I lx pg) (hx : x < 7) (hu : u + lx 1 x ≤ pg 0) (h : ∀ J : zz_I, (∀ q j, q ≠ k → J q j = I q j) → zx_pgM k 0 J lx (zx_put pg u x (lx 1 x)) → P J L) : zp_X8_carveOn k (nI u) (nI x) P I L := by
  have hu24 := hp.1
  have hw := zx_wd_bd hl hx
  refine ⟨fun y J M => ∃ i, i ≤ lx 1 x ∧ y = nI i ∧ M = L ∧ (∀ q j, q ≠ k → J q j = I q j) ∧ zx_pgM k 0 J lx (zx_put pg u x i), fun y _ _ => 3 - y.toNatClampNeg, ⟨0, by omega, rfl, rfl, fun _ _ _ => rfl, by rw [zx_put_0]; exact pM⟩, ?_⟩
  rintro y J M ⟨i, hi, rfl, rfl, hf, hJ⟩
  unfold zp_X8_carveOn_3b
  have ew : J 2 x = nI (lx 1 x) := by rw [hf 2 x (by omega)]; exact lM.2.1 x hx
  rw [zn_cl (by omega), ew]
  refine ⟨vp_in_nI (by omega) (by decide), pk_le (lx 1 x) i (fun c => ?_) (fun c => ?_)⟩
  · have : i = lx 1 x := by omega
    subst this; exact h J hf hJ
  · rw [show (19 : Int32) + nI u = nI (19 + u) from nI_add 19 u, nI_add, zn_cl (by omega), show 19 + u + i = 19 + (u + i) by omega]
    have step : ∀ v : Nat, v = (if i = 0 then x else 8) → zx_pgM k 0 (zz_up J k (19 + (u + i)) (nI v)) lx (zx_put pg u x (i + 1)) := fun v hv => zx_pgM_sign hl.1 hJ (by rw [zx_put_lo (by omega)]; omega) (fun j => by rw [zx_put_succ, hv])
    refine ⟨fun q => ⟨vp_in_nI (by omega) (by decide), ?_⟩, fun q => ⟨vp_in_nI (by omega) (by decide), ?_⟩⟩
    · rintro I39 rfl v40 rfl
      have hi0 : ¬ i = 0 := fun z => q (by rw [z]; rfl)
      refine ⟨⟨i + 1, by omega, nI_1 i, rfl, fun k2 j hk2 => ?_, step 8 (by rw [if_neg hi0])⟩, zz_down (n := 3) (by omega) (by decide)⟩
      simp only [zz_up, hk2, false_and, if_false]; exact hf k2 j hk2
    · rintro I39 rfl v40 rfl
      have hi0 : i = 0 := zn_j (by omega) (by decide) q
      refine ⟨⟨i + 1, by omega, nI_1 i, rfl, fun k2 j hk2 => ?_, step x (by rw [if_pos hi0])⟩, zz_down (n := 3) (by omega) (by decide)⟩
      simp only [zz_up, hk2, false_and, if_false]; exact hf k2 j hk2
/-- pages behind wear and carve are well formed, and come back -/
theorem zx_gap_OK {lx : Nat → Nat → Nat} {pg : Nat → Nat} {u : Nat} (hl : zx_lexOK lx) (hp : zx_pgOK lx pg) (hu : u < pg 0) (hs : pg (19 + u) < 7) : zx_pgOK lx (zx_gap pg u (lx 1 (pg (19 + u)))) ∧ zx_gap pg u (lx 1 (pg (19 + u))) 0 = pg 0 ∧ pg = zx_put (zx_gap pg u (lx 1 (pg (19 + u)))) u (pg (19 + u)) (lx 1 (pg (19 + u))) := by
  obtain ⟨a, b, c, d, e, f⟩ := hp
  have hw := zx_wd_bd hl hs
  obtain ⟨hfit, hcov⟩ := f u hu hs
  have h8 := hl.1
  have h0 : zx_gap pg u (lx 1 (pg (19 + u))) 0 = pg 0 := zx_gap_lo (by omega)
  refine ⟨⟨by rw [h0]; exact a, by rw [zx_gap_lo (by omega)]; exact b, fun j hj => by rw [zx_gap_lo (by omega)]; exact c j hj, fun w hw => by rw [zx_gap_lo (by omega)]; exact d w hw, fun x hx => ?_, fun x hx h7 => ?_⟩, h0, ?_⟩
  · rw [h0] at hx
    have := e x hx
    unfold zx_gap; split <;> omega
  · rw [h0] at hx ⊢
    by_cases q : 19 + u ≤ 19 + x ∧ 19 + x < 19 + u + lx 1 (pg (19 + u))
    · have : zx_gap pg u (lx 1 (pg (19 + u))) (19 + x) = 7 := by unfold zx_gap; rw [if_pos q]
      omega
    · have ex : zx_gap pg u (lx 1 (pg (19 + u))) (19 + x) = pg (19 + x) := by unfold zx_gap; rw [if_neg q]
      rw [ex] at h7 ⊢
      obtain ⟨g1, g2⟩ := f x hx h7
      refine ⟨g1, fun i h1 h2 => ?_⟩
      have g3 := g2 i h1 h2
      by_cases q2 : 19 + u ≤ 19 + (x + i) ∧ 19 + (x + i) < 19 + u + lx 1 (pg (19 + u))
      · exfalso
        by_cases q3 : x + i = u
        · rw [q3] at g3; omega
        · have : x < u := by omega
          have := g2 (u - x) (by omega) (by omega)
          rw [show x + (u - x) = u by omega] at this
          omega
      · unfold zx_gap; rw [if_neg q2]; exact g3
  · funext j
    unfold zx_put zx_gap
    by_cases q : 19 + u ≤ j ∧ j < 19 + u + lx 1 (pg (19 + u))
    · rw [if_pos q]
      by_cases q2 : j = 19 + u
      · rw [if_pos q2, q2]
      · rw [if_neg q2]
        have := hcov (j - 19 - u) (by omega) (by omega)
        rw [show 19 + (u + (j - 19 - u)) = j by omega] at this
        exact this
    · rw [if_neg q, if_neg q]
theorem zx_put_OK {lx : Nat → Nat → Nat} {pg : Nat → Nat} {u x : Nat} (hl : zx_lexOK lx) (hp : zx_pgOK lx pg) (hx : x < 7) (hf : zx_free pg u (lx 1 x) = true) : zx_pgOK lx (zx_put pg u x (lx 1 x)) ∧ zx_put pg u x (lx 1 x) 0 = pg 0 ∧ pg = zx_gap (zx_put pg u x (lx 1 x)) u (lx 1 x) ∧ u + lx 1 x ≤ pg 0 := by
  obtain ⟨a, b, c, d, e, f⟩ := hp
  have hw := zx_wd_bd hl hx
  have h8 := hl.1
  unfold zx_free at hf
  rw [Bool.and_eq_true, decide_eq_true_eq] at hf
  obtain ⟨hfit, hall⟩ := hf
  have hg : ∀ i, i < lx 1 x → pg (19 + (u + i)) = 7 := fun i hi => by have := zt_all_iff.mp hall i hi; simpa using this
  have h0 : zx_put pg u x (lx 1 x) 0 = pg 0 := zx_put_lo (by omega)
  refine ⟨⟨by rw [h0]; exact a, by rw [zx_put_lo (by omega)]; exact b, fun j hj => by rw [zx_put_lo (by omega)]; exact c j hj, fun w hw => by rw [zx_put_lo (by omega)]; exact d w hw, fun y hy => ?_, fun y hy h7 => ?_⟩, h0, ?_, hfit⟩
  · rw [h0] at hy
    have := e y hy
    unfold zx_put; split
    · split <;> omega
    · omega
  · rw [h0] at hy ⊢
    by_cases q : 19 + u ≤ 19 + y ∧ 19 + y < 19 + u + lx 1 x
    · by_cases q2 : y = u
      · subst q2
        have e1 : zx_put pg y x (lx 1 x) (19 + y) = x := by unfold zx_put; rw [if_pos q, if_pos rfl]
        rw [e1]
        refine ⟨hfit, fun i h1 h2 => ?_⟩
        unfold zx_put; rw [if_pos (by omega), if_neg (by omega)]
      · have : zx_put pg u x (lx 1 x) (19 + y) = 8 := by unfold zx_put; rw [if_pos q, if_neg (by omega)]
        omega
    · have ey : zx_put pg u x (lx 1 x) (19 + y) = pg (19 + y) := by unfold zx_put; rw [if_neg q]
      rw [ey] at h7 ⊢
      obtain ⟨g1, g2⟩ := f y hy h7
      refine ⟨g1, fun i h1 h2 => ?_⟩
      have g3 := g2 i h1 h2
      by_cases q2 : 19 + u ≤ 19 + (y + i) ∧ 19 + (y + i) < 19 + u + lx 1 x
      · exfalso
        have := hg (y + i - u) (by omega)
        rw [show u + (y + i - u) = y + i by omega] at this
        omega
      · unfold zx_put; rw [if_neg q2]; exact g3
  · funext j
    unfold zx_gap zx_put
    by_cases q : 19 + u ≤ j ∧ j < 19 + u + lx 1 x
    · rw [if_pos q]
      have := hg (j - 19 - u) (by omega)
      rw [show 19 + (u + (j - 19 - u)) = j by omega] at this
      exact this
    · rw [if_neg q, if_neg q]
