/-! fault and stone -/
theorem zx_R_p {IC J IM K : zz_I} {LC LM : zz_L} (hR : zx_R IC LC IM LM) (hC : zr_fr IC J) (hM : zr_mf (zz_up IM 0 0 0) K) (hk : zr_kd K) : zx_R J LC K LM := by
  have c : ∀ k, (k = 0 ∨ k = 2 ∨ 13 < k) → J k = IC k := fun k h => funext fun j => hC k j (by omega)
  have m : ∀ k, ¬ (7 ≤ k ∧ k ≤ 13) → k ≠ 0 → K k = IM k := fun k h1 h2 => funext fun j => (hM k j h1 (by omega)).trans (zu_k h2)
  have m0 : ∀ j, j ≠ 0 → j ≠ 3 → j ≠ 11 → K 0 j = IM 0 j := fun j h1 h2 h3 => (hM 0 j (by omega) (by omega)).trans (zu_i h1)
  obtain ⟨lx, pg, ⟨hl, hp, lC, lM, pC, pM⟩, ⟨d, nx, pgs, hh⟩, h1, h2, ⟨n, tx, ht⟩, ⟨q, sw, su, si, hs⟩, hz⟩ := hR
  refine ⟨lx, pg, ⟨hl, hp, ?_, ?_, ?_, ?_⟩, ⟨d, nx, pgs, ?_⟩, ?_, ?_, ⟨n, tx, ?_⟩, ⟨q, sw, su, si, ?_⟩, ?_⟩
  · unfold zx_lexC; rw [c 14 (by omega), c (14 + 1) (by omega), c (14 + 2) (by omega), c (14 + 3) (by omega), c (14 + 4) (by omega), c (14 + 5) (by omega), c (14 + 6) (by omega)]; exact lC
  · unfold zx_lexM; rw [m0 5 (by omega) (by omega) (by omega), m 2 (by omega) (by omega), m (2 + 1) (by omega) (by omega), m (2 + 2) (by omega) (by omega), m (2 + 3) (by omega) (by omega), m (2 + 4) (by omega) (by omega)]; exact lM
  · unfold zx_pgC; rw [c 21 (by omega), c (21 + 1) (by omega), c (21 + 2) (by omega), c (21 + 3) (by omega)]; exact pC
  · unfold zx_pgM; rw [m 14 (by omega) (by omega)]; exact pM
  · unfold zx_hist zx_pgM; rw [c 29 (by omega), c 30 (by omega), c 31 (by omega), c 32 (by omega), m0 21 (by omega) (by omega) (by omega), m 16 (by omega) (by omega)]; exact hh
  · exact zx_slot_congr h1 (hC 0 10 (by omega)) (c 48 (by omega)) (c 49 (by omega)) (c 50 (by omega)) (c 51 (by omega)) (by rw [m 18 (by omega) (by omega)]) (m 17 (by omega) (by omega))
  · exact zx_slot_congr h2 (hC 0 11 (by omega)) (c 52 (by omega)) (c 53 (by omega)) (c 54 (by omega)) (c 55 (by omega)) (by rw [m 18 (by omega) (by omega)]) (m 17 (by omega) (by omega))
  · unfold zx_text; rw [hC 1 1 (by omega), c 2 (by omega), m0 2 (by omega) (by omega) (by omega), m 1 (by omega) (by omega)]; exact ht
  · unfold zx_seen; rw [hC 33 3 (by omega), c 34 (by omega), c 35 (by omega), c 36 (by omega), m0 24 (by omega) (by omega) (by omega), m 19 (by omega) (by omega), m 20 (by omega) (by omega), m 21 (by omega) (by omega)]; exact hs
  · obtain ⟨z1, z2, z3, z4, z5⟩ := hz
    refine ⟨z1, (hC 4 6 (by omega)).trans z2, ?_, ?_, hk⟩
    · rw [hC 45 0 (by omega)]; exact z3
    · rw [m 5 (by omega) (by omega)]; exact z4
theorem zr_of {IC IM : zz_I} {LC LM : zz_L} (hR : zx_R IC LC IM LM) : ∃ (tx : Nat → Nat) (n : Nat), zr_T IC tx n ∧ IC 4 6 = 1 ∧ zr_TM (zz_up IM 0 0 0) tx n ∧ zr_kd (zz_up IM 0 0 0) := by
  obtain ⟨lx, pg, hm, hh, h1, h2, ⟨n, tx, n1, n2, n3, n4⟩, hs, z1, z2, z3, z4, z5⟩ := hR
  exact ⟨tx, n, ⟨n1, n2, fun j hj => ⟨(n4 j hj).1, (n4 j hj).2.1⟩⟩, z2, ⟨n1, n3, fun j hj => ⟨(n4 j hj).1, (n4 j hj).2.2⟩⟩, fun j hj => z5 j hj⟩
theorem zo_2_ok : zo_2 zx_R := by
  intro IC LC IM LM hR
  obtain ⟨tx, n, hT, h46, hTM, hkd⟩ := zr_of hR
  refine zs_parse hT h46 (fun J hJ => ?_)
  rintro _ rfl
  exact zs_readStone hTM hkd (fun K kf kd _ => ⟨rfl, zx_R_p hR hJ.1 kf kd⟩)
theorem zs_copyL {I : zz_I} {L : zz_L} {P : zz_I → zz_L → Prop} (h : ∀ K : zz_I, (∀ k j, ¬ (14 ≤ k ∧ k ≤ 20) → K k j = I k j) → (∀ lx : Nat → Nat → Nat, zx_lexOK lx → zx_lexC 3 I lx → zx_lexC 14 K lx) → P K L) : zp_X2_copyFrom P I L := by
  rintro _ rfl _ rfl _ rfl _ rfl _ rfl _ rfl _ rfl
  refine h _ (fun k j hk => ?_) (fun lx hl lC => ?_)
  · rw [zu_k (by omega), zc_k (by omega), zc_k (by omega), zc_k (by omega), zc_k (by omega), zc_k (by omega), zc_k (by omega)]
  · obtain ⟨l1, l2, l3⟩ := lC
    have h8 := hl.1
    refine ⟨?_, fun j hj => ?_, fun w hw => ?_⟩
    · rw [zu_e, zc_k (by omega), zc_k (by omega), zc_k (by omega), zc_k (by omega), zc_k (by omega), zc_k (by omega)]; exact l1
    · rw [zu_k (by omega), zc_k (by omega), zc_k (by omega), zc_k (by omega), zc_k (by omega), zc_k (by omega), zc_e hj]; exact l2 j hj
    · obtain ⟨b1, b2, b3, b4, b5⟩ := l3 w hw
      have hw5 := (hl.2.2.2 w hw).2.1
      refine ⟨?_, ?_, ?_, ?_, fun j hj => ?_⟩
      · rw [zu_k (by omega), zc_k (by omega), zc_k (by omega), zc_k (by omega), zc_e (by omega), zc_k (by omega), zc_k (by omega)]; exact b1
      · rw [zu_k (by omega), zc_k (by omega), zc_k (by omega), zc_e (by omega), zc_k (by omega), zc_k (by omega), zc_k (by omega)]; exact b2
      · rw [zu_k (by omega), zc_k (by omega), zc_e (by omega), zc_k (by omega), zc_k (by omega), zc_k (by omega), zc_k (by omega)]; exact b3
      · rw [zu_k (by omega), zc_e (by omega), zc_k (by omega), zc_k (by omega), zc_k (by omega), zc_k (by omega), zc_k (by omega)]; exact b4
      · rw [zu_k (by omega), zc_k (by omega), zc_k (by omega), zc_k (by omega), zc_k (by omega), zc_e (by omega), zc_k (by omega)]; exact b5 j hj
theorem zs_lay14 {I : zz_I} {L : zz_L} {P : zz_I → zz_L → Prop} (h : ∀ J : zz_I, (∀ k j, k ≠ 14 → J k j = I k j) → (∀ j, j < 43 → J 14 j = I 13 j) → P J L) : zp_X8_lay 14 13 P I L := by
  refine ⟨fun y J M => ∃ i : Nat, i ≤ 43 ∧ y = nI i ∧ M = L ∧ (∀ k j, k ≠ 14 → J k j = I k j) ∧ (∀ j, j < i → J 14 j = I 13 j), fun y _ _ => 43 - y.toNatClampNeg, ⟨0, by omega, rfl, rfl, fun _ _ _ => rfl, fun j hj => absurd hj (by omega)⟩, ?_⟩
  rintro y J M ⟨i, hi, rfl, rfl, hf, hv⟩
  unfold zp_X8_lay_2b
  refine pk_le 43 i (fun c => h J hf (fun j hj => hv j (by omega))) (fun c => ?_)
  rw [zn_cl (n := i) (by omega)]
  refine ⟨vp_in_nI (by omega) (by decide), vp_in_nI (by omega) (by decide), ?_⟩
  rintro _ rfl _ rfl
  refine ⟨⟨i + 1, by omega, nI_1 i, rfl, fun k j hk => ?_, fun j hj => ?_⟩, zz_down (i := i) (n := 43) (by omega) (by omega)⟩
  · rw [zu_k hk]; exact hf k j hk
  · by_cases e : j = i
    · rw [e, zu_e]; exact hf 13 i (by omega)
    · rw [zu_i e]; exact hv j (by omega)
/-- the reference's tables after stone -/
def zr_cpd (I K : zz_I) : Prop := (∀ k j, ¬ (2 ≤ k ∧ k ≤ 6) → K k j = I k j) ∧ (∀ j, j < 7 → K 2 j = I 7 j) ∧ (∀ j, j < 40 → K 4 j = I 9 j) ∧ ∀ j, j < 8 → K 3 j = I 8 j ∧ K 5 j = I 10 j ∧ K 6 j = I 11 j
theorem zs_stone38 {I : zz_I} {L : zz_L} {P : Int32 → zz_I → zz_L → Prop} (h : ∀ K : zz_I, zr_cpd I K → P (K 14 0) (zz_up (zz_up (zz_up K 0 21 (0 : Int32)) 18 0 (0 : Int32)) 18 1 (0 : Int32)) L) : zp_X8_stone_38 P (0 : Int32) I L := by
  have z0' : (0 : Int32).toNatClampNeg = 0 := by decide
  have z1' : (1 : Int32).toNatClampNeg = 1 := by decide
  refine ⟨fun y J M => ∃ i : Nat, i ≤ 7 ∧ y = nI i ∧ L = M ∧ (∀ k j, k ≠ 2 → J k j = I k j) ∧ (∀ j, j < i → J 2 j = I 7 j), fun y _ _ => 7 - y.toNatClampNeg, ⟨0, by omega, rfl, rfl, fun _ _ _ => rfl, fun j hj => absurd hj (by omega)⟩, ?_⟩
  rintro y J1 M ⟨i, hi, rfl, rfl, f1, v1⟩
  unfold zp_X8_stone_38b
  refine pk_le 7 i (fun c => ?_) (fun c => ?_)
  rotate_left
  · rw [zn_cl (n := i) (by omega)]
    refine ⟨vp_in_nI (by omega) (by decide), vp_in_nI (by omega) (by decide), ?_⟩
    rintro _ rfl _ rfl
    refine ⟨⟨i + 1, by omega, nI_1 i, rfl, fun k j hk => ?_, fun j hj => ?_⟩, zz_down (i := i) (n := 7) (by omega) (by omega)⟩
    · rw [zu_k hk]; exact f1 k j hk
    · by_cases e : j = i
      · rw [e, zu_e]; exact f1 7 i (by omega)
      · rw [zu_i e]; exact v1 j (by omega)
  refine ⟨fun y J M => ∃ i : Nat, i ≤ 40 ∧ y = nI i ∧ L = M ∧ (∀ k j, k ≠ 4 → J k j = J1 k j) ∧ (∀ j, j < i → J 4 j = I 9 j), fun y _ _ => 40 - y.toNatClampNeg, ⟨0, by omega, rfl, rfl, fun _ _ _ => rfl, fun j hj => absurd hj (by omega)⟩, ?_⟩
  rintro y J2 M ⟨i2, hi2, rfl, rfl, f2, v2⟩
  unfold zp_X8_stone_64b
  refine pk_le 40 i2 (fun c2 => ?_) (fun c2 => ?_)
  rotate_left
  · rw [zn_cl (n := i2) (by omega)]
    refine ⟨vp_in_nI (by omega) (by decide), vp_in_nI (by omega) (by decide), ?_⟩
    rintro _ rfl _ rfl
    refine ⟨⟨i2 + 1, by omega, nI_1 i2, rfl, fun k j hk => ?_, fun j hj => ?_⟩, zz_down (i := i2) (n := 40) (by omega) (by omega)⟩
    · rw [zu_k hk]; exact f2 k j hk
    · by_cases e : j = i2
      · rw [e, zu_e, f2 9 i2 (by omega)]; exact f1 9 i2 (by omega)
      · rw [zu_i e]; exact v2 j (by omega)
  refine ⟨fun y J M => ∃ i : Nat, i ≤ 8 ∧ y = nI i ∧ L = M ∧ (∀ k j, ¬ (k = 3 ∨ k = 5 ∨ k = 6) → J k j = J2 k j) ∧ (∀ j, j < i → J 3 j = I 8 j ∧ J 5 j = I 10 j ∧ J 6 j = I 11 j), fun y _ _ => 8 - y.toNatClampNeg, ⟨0, by omega, rfl, rfl, fun _ _ _ => rfl, fun j hj => absurd hj (by omega)⟩, ?_⟩
  rintro y J3 M ⟨i3, hi3, rfl, rfl, f3, v3⟩
  unfold zp_X8_stone_90b
  have g : ∀ k j, ¬ (2 ≤ k ∧ k ≤ 6) → J3 k j = I k j := fun k j hk => by
    rw [f3 k j (by omega), f2 k j (by omega), f1 k j (by omega)]
  refine pk_le 8 i3 (fun c3 => ?_) (fun c3 => ?_)
  rotate_left
  · rw [zn_cl (n := i3) (by omega)]
    have vW : vp_in (nI i3) 8 := vp_in_nI c3 (by decide)
    refine ⟨vW, vW, ?_⟩
    rintro _ rfl
    refine ⟨vW, vW, ?_⟩
    rintro _ rfl
    refine ⟨vW, vW, ?_⟩
    rintro _ rfl _ rfl
    rw [zu_k (show (11 : Nat) ≠ 5 by omega), zu_k (show (11 : Nat) ≠ 3 by omega), zu_k (show (10 : Nat) ≠ 3 by omega)]
    refine ⟨⟨i3 + 1, by omega, nI_1 i3, rfl, fun k j hk => ?_, fun j hj => ?_⟩, zz_down (i := i3) (n := 8) (by omega) (by omega)⟩
    · rw [zu_k (by omega), zu_k (by omega), zu_k (by omega)]; exact f3 k j hk
    · by_cases e : j = i3
      · subst e
        refine ⟨?_, ?_, ?_⟩
        · rw [zu_k (by omega), zu_k (by omega), zu_e]; exact g 8 j (by omega)
        · rw [zu_k (by omega), zu_e]; exact g 10 j (by omega)
        · rw [zu_e]; exact g 11 j (by omega)
      · obtain ⟨b1, b2, b3⟩ := v3 j (by omega)
        refine ⟨?_, ?_, ?_⟩
        · rw [zu_i e, zu_i e, zu_i e]; exact b1
        · rw [zu_i e, zu_i e, zu_i e]; exact b2
        · rw [zu_i e, zu_i e, zu_i e]; exact b3
  rw [z0', z1', show vp_nar .boolean (0 : Int32) = (0 : Int32) from zx_nar (k := 0) (by decide)]
  rintro _ rfl
  refine ⟨pk_in 0 2 (by decide), ?_⟩
  rintro _ rfl
  refine ⟨pk_in 1 2 (by decide), ?_⟩
  rintro _ rfl
  refine ⟨pk_in 0 43 (by decide), ?_⟩
  have hh := h J3 ⟨g, fun j hj => ?_, fun j hj => ?_, fun j hj => v3 j (by omega)⟩
  · rw [zu_k (show (14 : Nat) ≠ 18 by omega), zu_k (show (14 : Nat) ≠ 18 by omega), zu_k (show (14 : Nat) ≠ 0 by omega)]
    exact hh
  · rw [f3 2 j (by omega), f2 2 j (by omega)]; exact v1 j (by omega)
  · rw [f3 4 j (by omega)]; exact v2 j (by omega)
theorem zo_3_ok : zo_3 zx_R := by
  intro IC LC IM LM hR
  obtain ⟨tx, n, hT, h46, hTM, hkd⟩ := zr_of hR
  have eok := zr_end_ok (tx := tx) (n := n)
  have hn := hT.1
  refine zs_parse hT h46 (fun J hJ => ?_)
  obtain ⟨E, eE⟩ : ∃ E, E = zr_end tx n := ⟨_, rfl⟩
  rw [← eE] at hJ eok ⊢
  have hpos := eok.1
  have ans : zr_ans E = (-9 : Int32) ↔ E.2.1 = false := by
    unfold zr_ans
    cases q : E.2.1
    · simp
    · rw [if_pos rfl]
      constructor
      · intro z
        exact absurd (show (-9 : Int32) < 0 by decide) (by rw [← z]; exact nI_pos (by omega))
      · intro z; cases z
  refine ⟨fun z => ?_, fun z => ?_⟩
  rotate_left
  · rintro _ rfl
    refine zs_readStone hTM hkd (fun K kf kd _ => ?_)
    rw [← eE]
    exact ⟨fun q => absurd q z, fun _ => ⟨rfl, zx_R_p hR hJ.1 kf kd⟩⟩
  have hnb := ans.mp z
  obtain ⟨hl, hp⟩ := eok.2 hnb
  obtain ⟨jf, j4, j5, jO⟩ := hJ
  obtain ⟨lC, pC, -⟩ := jO hnb
  have h8 := hl.1
  have h24 := hp.1
  obtain ⟨lx, elx⟩ : ∃ lx, lx = E.2.2.1 := ⟨_, rfl⟩
  obtain ⟨pg, epg⟩ : ∃ pg, pg = E.2.2.2.1 := ⟨_, rfl⟩
  rw [← elx] at hl hp lC pC h8
  rw [← epg] at hp pC h24
  refine zs_copyL (fun J1 f1 l1 => ?_)
  have lC1 := l1 lx hl lC
  refine zs_copyC (by omega) (fun J2 f2 f2' p2 => ?_)
  have pC1 : zx_pgC 10 J1 lx pg := by
    obtain ⟨g1, g2, g3, g4, g5⟩ := pC
    refine ⟨?_, ?_, fun j hj => ?_, fun w hw => ?_, fun u hu => ?_⟩
    · rw [f1 10 3 (by omega)]; exact g1
    · rw [f1 10 4 (by omega)]; exact g2
    · rw [f1 (10 + 2) j (by omega)]; exact g3 j hj
    · rw [f1 (10 + 3) w (by omega)]; exact g4 w hw
    · rw [f1 (10 + 1) u (by omega)]; exact g5 u hu
  have pC2 := p2 lx pg h8 h24 pC1
  rintro _ rfl _ rfl _ rfl _ rfl
  obtain ⟨J5, e5⟩ : ∃ J5, J5 = zz_up (zz_up (zz_up (zz_up J2 29 3 (0 : Int32)) 29 4 (0 : Int32)) 0 10 (0 : Int32)) 0 11 (0 : Int32) := ⟨_, rfl⟩
  rw [← e5]
  have f5 : ∀ k j, ¬ (k = 29 ∧ (j = 3 ∨ j = 4)) → ¬ (k = 0 ∧ (j = 10 ∨ j = 11)) → J5 k j = J2 k j := fun k j q1 q2 => by
    rw [e5, zu_k2 (by omega), zu_k2 (by omega), zu_k2 (by omega), zu_k2 (by omega)]
  have v293 : J5 29 3 = 0 := by rw [e5, zu_k (by omega), zu_k (by omega), zu_i (by omega), zu_e]
  have v294 : J5 29 4 = 0 := by rw [e5, zu_k (by omega), zu_k (by omega), zu_e]
  have v010 : J5 0 10 = 0 := by rw [e5, zu_i (by omega), zu_e]
  have v011 : J5 0 11 = 0 := by rw [e5, zu_e]
  clear e5
  have fr5 : ∀ k j, (k = 2 ∨ (24 < k ∧ k ≠ 29) ∨ (k = 1 ∧ j = 1) ∨ (k = 4 ∧ j = 6)) → J5 k j = IC k j := fun k j hk => by
    rw [f5 k j (by omega) (by omega), f2 k j (by omega), f1 k j (by omega), jf k j (by omega)]
  have e213 : J5 21 3 = nI (pg 0) := by rw [f5 21 3 (by omega) (by omega)]; exact pC2.1
  rw [e213]
  rintro _ rfl
  refine zs_readStone hTM hkd (fun K kf kd hO => ?_)
  rw [← eE] at hO ⊢
  obtain ⟨lM, pM⟩ := hO hnb
  rw [← elx] at lM pM
  rw [← epg] at pM
  refine ⟨fun _ => ?_, fun q => absurd z q⟩
  refine zs_lay14 (fun K1 k1 v1 => ?_)
  rw [k1 0 11 (by omega), lM.1]
  rintro _ rfl
  refine zs_stone38 (fun K2 hcp => ?_)
  obtain ⟨c1, c2, c3, c4⟩ := hcp
  have g1 : ∀ k j, ¬ (2 ≤ k ∧ k ≤ 6) → k ≠ 14 → ¬ (k = 0 ∧ j = 5) → K2 k j = K k j := fun k j q1 q2 q3 => by rw [c1 k j q1, zu_k2 q3, k1 k j q2]
  have g14 : ∀ j, j < 43 → K2 14 j = K 13 j := fun j hj => by rw [c1 14 j (by omega), zu_k (by omega)]; exact v1 j hj
  have e140 : K2 14 0 = nI (pg 0) := by rw [g14 0 (by omega)]; exact pM.1
  rw [e140]
  refine ⟨rfl, ?_⟩
  obtain ⟨K5, e5⟩ : ∃ K5, K5 = zz_up (zz_up (zz_up K2 0 21 (0 : Int32)) 18 0 (0 : Int32)) 18 1 (0 : Int32) := ⟨_, rfl⟩
  rw [← e5]
  have g5 : ∀ k j, ¬ (k = 0 ∧ j = 21) → ¬ (k = 18 ∧ (j = 0 ∨ j = 1)) → K5 k j = K2 k j := fun k j q1 q2 => by rw [e5, zu_k2 (by omega), zu_k2 (by omega), zu_k2 (by omega)]
  have w021 : K5 0 21 = 0 := by rw [e5, zu_k (by omega), zu_k (by omega), zu_e]
  have w180 : K5 18 0 = 0 := by rw [e5, zu_i (by omega), zu_e]
  have w181 : K5 18 1 = 0 := by rw [e5, zu_e]
  clear e5
  have gM : ∀ k j, (k = 1 ∨ k = 19 ∨ k = 20 ∨ k = 21 ∨ (k = 0 ∧ (j = 2 ∨ j = 24))) → K5 k j = IM k j := fun k j hk => by
    rw [g5 k j (by omega) (by omega), g1 k j (by omega) (by omega) (by omega), kf k j (by omega) (by omega), zu_k2 (by omega)]
  obtain ⟨-, -, -, -, -, -, ⟨n0, tx0, ht0⟩, ⟨q0, sw, su, si, hs0⟩, z1, z2, z3, z4, z5⟩ := hR
  refine ⟨lx, pg, ⟨hl, hp, ?_, ?_, ?_, ?_⟩, ⟨0, 0, fun _ => pg, ?_⟩, Or.inl ⟨v010, w180⟩, Or.inl ⟨v011, w181⟩, ⟨n0, tx0, ?_⟩, ⟨q0, sw, su, si, ?_⟩, ?_⟩
  · obtain ⟨a1, a2, a3⟩ := lC1
    have ff : ∀ k j, 14 ≤ k → k ≤ 20 → J5 k j = J1 k j := fun k j q1 q2 => by rw [f5 k j (by omega) (by omega), f2 k j (by omega)]
    refine ⟨?_, fun j hj => ?_, fun w hw => ?_⟩
    · rw [ff 14 6 (by omega) (by omega)]; exact a1
    · rw [ff (14 + 1) j (by omega) (by omega)]; exact a2 j hj
    · obtain ⟨b1, b2, b3, b4, b5⟩ := a3 w hw
      refine ⟨?_, ?_, ?_, ?_, fun j hj => ?_⟩
      · rw [ff (14 + 3) w (by omega) (by omega)]; exact b1
      · rw [ff (14 + 4) w (by omega) (by omega)]; exact b2
      · rw [ff (14 + 5) w (by omega) (by omega)]; exact b3
      · rw [ff (14 + 6) w (by omega) (by omega)]; exact b4
      · rw [ff (14 + 2) _ (by omega) (by omega)]; exact b5 j hj
  · obtain ⟨a1, a2, a3⟩ := lM
    refine ⟨?_, fun j hj => ?_, fun w hw => ?_⟩
    · rw [g5 0 5 (by omega) (by omega), c1 0 5 (by omega), zu_e]
    · rw [g5 2 j (by omega) (by omega), c2 j hj, zu_k (by omega), k1 7 j (by omega)]; exact a2 j hj
    · obtain ⟨b1, b2, b3, b5⟩ := a3 w hw
      obtain ⟨d1, d2, d3⟩ := c4 w (by omega)
      have hw5 := (hl.2.2.2 w hw).2.1
      refine ⟨?_, ?_, ?_, fun j hj => ?_⟩
      · rw [g5 (2 + 1) w (by omega) (by omega), d1, zu_k (by omega), k1 8 w (by omega)]; exact b1
      · rw [g5 (2 + 3) w (by omega) (by omega), d2, zu_k (by omega), k1 10 w (by omega)]; exact b2
      · rw [g5 (2 + 4) w (by omega) (by omega), d3, zu_k (by omega), k1 11 w (by omega)]; exact b3
      · rw [g5 (2 + 2) _ (by omega) (by omega), c3 _ (by omega), zu_k (by omega), k1 9 _ (by omega)]; exact b5 j hj
  · obtain ⟨a1, a2, a3, a4, a5⟩ := pC2
    refine ⟨?_, ?_, fun j hj => ?_, fun w hw => ?_, fun u hu => ?_⟩
    · rw [f5 21 3 (by omega) (by omega)]; exact a1
    · rw [f5 21 4 (by omega) (by omega)]; exact a2
    · rw [f5 (21 + 2) j (by omega) (by omega)]; exact a3 j hj
    · rw [f5 (21 + 3) w (by omega) (by omega)]; exact a4 w hw
    · rw [f5 (21 + 1) u (by omega) (by omega)]; exact a5 u hu
  · obtain ⟨a1, a2, a3, a4, a5⟩ := pM
    refine ⟨?_, ?_, fun j hj => ?_, fun w hw => ?_, fun u hu => ?_⟩
    · rw [g5 14 0 (by omega) (by omega)]; exact e140
    · rw [g5 14 (0 + 1) (by omega) (by omega), g14 (0 + 1) (by omega)]; exact a2
    · rw [g5 14 _ (by omega) (by omega), g14 _ (by omega)]; exact a3 j hj
    · rw [g5 14 _ (by omega) (by omega), g14 _ (by omega)]; exact a4 w hw
    · rw [g5 14 _ (by omega) (by omega), g14 _ (by omega)]; exact a5 u hu
  · exact ⟨by omega, by omega, v293, v294, w021, rfl, fun i hi => absurd hi (by omega)⟩
  · obtain ⟨a1, a2, a3, a4⟩ := ht0
    refine ⟨a1, (fr5 1 1 (by omega)).trans a2, (gM 0 2 (by omega)).trans a3, fun j hj => ?_⟩
    obtain ⟨b1, b2, b3⟩ := a4 j hj
    exact ⟨b1, (fr5 2 j (by omega)).trans b2, (gM 1 j (by omega)).trans b3⟩
  · obtain ⟨a1, a2, a3, a4⟩ := hs0
    refine ⟨a1, (fr5 33 3 (by omega)).trans a2, (gM 0 24 (by omega)).trans a3, fun j hj => ?_⟩
    obtain ⟨b1, b2, b3, b4, b5, b6, b7, b8, b9⟩ := a4 j hj
    exact ⟨b1, b2, b3, (fr5 34 j (by omega)).trans b4, (gM 19 j (by omega)).trans b5, (fr5 35 j (by omega)).trans b6, (gM 20 j (by omega)).trans b7, (fr5 36 j (by omega)).trans b8, (gM 21 j (by omega)).trans b9⟩
  · refine ⟨z1, (fr5 4 6 (by omega)).trans z2, ?_, fun j hj => ?_, fun j hj => ?_⟩
    · rw [fr5 45 0 (by omega)]; exact z3
    · rw [g5 5 j (by omega) (by omega), (c4 j hj).2.1, zu_k (by omega), k1 10 j (by omega)]; exact kd j hj
    · rw [g5 10 j (by omega) (by omega), g1 10 j (by omega) (by omega) (by omega)]; exact kd j hj
