/-! a word, read by the developers' program -/
theorem zs_w115B {I0 J : zz_I} {L : zz_L} {P : zz_I → zz_L → Prop} {tx : Nat → Nat} {n p W : Nat} {x2 x3 : Int32} (hT : zr_T I0 tx n) (hB : zr_CB I0 J p) (hp : p ≤ n) (hW : W < 8) (h : ∀ K : zz_I, zr_CB I0 K p → P K L) : zp_X4_parseWord_115 P (nI W) x2 x3 J L := by
  unfold zp_X4_parseWord_115
  rw [zn_cl (n := W) (by omega)]
  have vW : vp_in (nI W) 8 := vp_in_nI hW (by decide)
  refine ⟨vW, ?_⟩
  rintro _ rfl
  refine ⟨vW, ?_⟩
  rintro _ rfl
  refine zs_takeB hT (zr_CB_up (zr_CB_up hB (by omega) (by omega)) (by omega) (by omega)) hp (fun K1 h1 => ⟨vW, ?_⟩)
  rintro _ rfl
  refine zs_takeB hT (zr_CB_up h1 (by omega) (by omega)) hp (fun K2 h2 => ⟨vW, ?_⟩)
  rintro _ rfl
  refine zs_takeB hT (zr_CB_up h2 (by omega) (by omega)) hp (fun K3 h3 => ⟨vW, ?_⟩)
  rintro _ rfl _ rfl
  exact h _ (zr_CB_up (zr_CB_up h3 (by omega) (by omega)) (by omega) (by omega))
theorem zs_w115 {I0 J K : zz_I} {L : zz_L} {P : zz_I → zz_L → Prop} {tx : Nat → Nat} {n c : Nat} {s : zr_S} {x3 : Int32} (hT : zr_T I0 tx n) (hC : zr_CS I0 J s) (hb : s.2.1 = false) (hok : zr_ok n s) (hW : s.2.2.1 0 0 < 8) (kf : zr_fr I0 K) (k4 : K 1 4 = nI (s.1 + 1 + c)) (k5 : K 1 5 = 0) (hcn : s.1 + 1 + c ≤ n) (hc2 : ¬ c < 2) (hc5 : c ≤ 5) (kk : ∀ k j, ¬ (k = 5 ∨ (k = 1 ∧ j = 4)) → K k j = J k j) (klo : ∀ j, j < 5 * s.2.2.1 0 0 → K 5 j = J 5 j) (kl : ∀ j, j < c → K 5 (5 * s.2.2.1 0 0 + j) = nI (tx (s.1 + 1 + j) - 97)) (e3 : x3 = nI (zt_sum c (fun k => s.2.2.1 1 (tx (s.1 + 1 + k) - 97)))) (h : ∀ K : zz_I, zr_CS I0 K (zr_word1 tx n s c) → P K L) : zp_X4_parseWord_115 P (nI (s.2.2.1 0 0)) (nI c) x3 K L := by
  obtain ⟨cf, c4, c5, cO⟩ := hC
  obtain ⟨lC, pC, c16⟩ := cO hb
  have hl := (hok.2 hb).1
  obtain ⟨W, eW⟩ : ∃ W, W = s.2.2.1 0 0 := ⟨_, rfl⟩
  have eW' := eW
  rw [← eW] at hW klo kl ⊢
  unfold zp_X4_parseWord_115
  rw [zn_cl (n := W) (by omega)]
  have vW : vp_in (nI W) 8 := vp_in_nI hW (by decide)
  refine ⟨vW, ?_⟩
  rintro _ rfl
  refine ⟨vW, ?_⟩
  rintro _ rfl
  obtain ⟨K1, eK1⟩ : ∃ K1, K1 = zz_up (zz_up K 6 W (nI c)) 9 W x3 := ⟨_, rfl⟩
  rw [← eK1]
  have f1 : zr_fr I0 K1 := by rw [eK1]; exact zr_fr_up (zr_fr_up kf (by omega)) (by omega)
  have k1 : ∀ k j, ¬ (k = 6 ∧ j = W) → ¬ (k = 9 ∧ j = W) → K1 k j = K k j := fun k j q1 q2 => by rw [eK1, zu_k2 q2, zu_k2 q1]
  have k16 : K1 6 W = nI c := by rw [eK1, zu_k (by omega), zu_e]
  have k19 : K1 9 W = x3 := by rw [eK1, zu_e]
  clear eK1
  have hbad : ∀ q, q ≤ n → zr_word1 tx n s c = zr_bad s q → ∀ M : zz_I, zr_CB I0 M q → P M L := fun q _ e M hM => h M (by rw [e]; exact zr_CS_bad hM)
  refine zs_take 0 2 (zr_fr_T f1 hT) ((k1 1 4 (by omega) (by omega)).trans k4) hcn ((k1 1 5 (by omega) (by omega)).trans k5) (by omega) (by omega) (fun z => ⟨vW, ?_⟩) (fun z zn => ⟨vW, ?_⟩)
  · rintro _ rfl
    have hfin := hbad (s.1 + 1 + c) hcn (by unfold zr_word1; rw [if_neg hc2, if_pos z])
    refine zs_takeB hT (zr_CB_up (zr_CB_of f1 ((k1 1 4 (by omega) (by omega)).trans k4)) (by omega) (by omega)) hcn (fun K2 h2 => ⟨vW, ?_⟩)
    rintro _ rfl
    refine zs_takeB hT (zr_CB_up h2 (by omega) (by omega)) hcn (fun K3 h3 => ⟨vW, ?_⟩)
    rintro _ rfl _ rfl
    exact hfin _ (zr_CB_up (zr_CB_up h3 (by omega) (by omega)) (by omega) (by omega))
  rintro _ rfl
  obtain ⟨K2, eK2⟩ : ∃ K2, K2 = zz_up (zz_up K1 1 4 (nI (s.1 + 1 + c + 1))) 7 W (nI (tx (s.1 + 1 + c) - 48)) := ⟨_, rfl⟩
  rw [← eK2]
  have f2 : zr_fr I0 K2 := by rw [eK2]; exact zr_fr_up (zr_fr_up f1 (by omega)) (by omega)
  have k2 : ∀ k j, ¬ (k = 7 ∧ j = W) → ¬ (k = 1 ∧ j = 4) → K2 k j = K1 k j := fun k j q1 q2 => by rw [eK2, zu_k2 q1, zu_k2 q2]
  have k24 : K2 1 4 = nI (s.1 + 1 + c + 1) := by rw [eK2, zu_k (by omega), zu_e]
  have k27 : K2 7 W = nI (tx (s.1 + 1 + c) - 48) := by rw [eK2, zu_e]
  have k25 : K2 1 5 = 0 := by rw [k2 1 5 (by omega) (by omega), k1 1 5 (by omega) (by omega)]; exact k5
  clear eK2
  refine zs_take 0 2 (zr_fr_T f2 hT) k24 (by omega) k25 (by omega) (by omega) (fun z2 => ⟨vW, ?_⟩) (fun z2 zn2 => ⟨vW, ?_⟩)
  · rintro _ rfl
    have hfin := hbad (s.1 + 1 + c + 1) (by omega) (by unfold zr_word1; rw [if_neg hc2, if_neg (by rw [z]; decide), if_pos z2])
    refine zs_takeB hT (zr_CB_up (zr_CB_of f2 k24) (by omega) (by omega)) (by omega) (fun K3 h3 => ⟨vW, ?_⟩)
    rintro _ rfl _ rfl
    exact hfin _ (zr_CB_up (zr_CB_up h3 (by omega) (by omega)) (by omega) (by omega))
  rintro _ rfl
  obtain ⟨K3, eK3⟩ : ∃ K3, K3 = zz_up (zz_up K2 1 4 (nI (s.1 + 1 + c + 1 + 1))) 8 W (nI (tx (s.1 + 1 + c + 1) - 48)) := ⟨_, rfl⟩
  rw [← eK3]
  have f3 : zr_fr I0 K3 := by rw [eK3]; exact zr_fr_up (zr_fr_up f2 (by omega)) (by omega)
  have k3 : ∀ k j, ¬ (k = 8 ∧ j = W) → ¬ (k = 1 ∧ j = 4) → K3 k j = K2 k j := fun k j q1 q2 => by rw [eK3, zu_k2 q1, zu_k2 q2]
  have k34 : K3 1 4 = nI (s.1 + 1 + c + 2) := by rw [eK3, zu_k (by omega), zu_e]
  have k38 : K3 8 W = nI (tx (s.1 + 1 + c + 1) - 48) := by rw [eK3, zu_e]
  have k35 : K3 1 5 = 0 := by rw [k3 1 5 (by omega) (by omega)]; exact k25
  clear eK3
  refine zs_take 1 9 (zr_fr_T f3 hT) k34 (by omega) k35 (by omega) (by omega) (fun z3 => ⟨vW, ?_⟩) (fun z3 zn3 => ⟨vW, ?_⟩)
  · rintro _ rfl _ rfl
    have hfin := hbad (s.1 + 1 + c + 2) (by omega) (by unfold zr_word1; rw [if_neg hc2, if_neg (by rw [z]; decide), if_neg (by rw [z2]; decide), if_pos z3])
    exact hfin _ (zr_CB_up (zr_CB_up (zr_CB_of f3 k34) (by omega) (by omega)) (by omega) (by omega))
  rw [show nI W + (1 : Int32) = nI (W + 1) from nI_1 W]
  rintro _ rfl _ rfl
  obtain ⟨K4, eK4⟩ : ∃ K4, K4 = zz_up (zz_up (zz_up K3 1 4 (nI (s.1 + 1 + c + 2 + 1))) 13 W (nI (tx (s.1 + 1 + c + 2) - 48))) 3 6 (nI (W + 1)) := ⟨_, rfl⟩
  rw [← eK4]
  have f4 : zr_fr I0 K4 := by rw [eK4]; exact zr_fr_up (zr_fr_up (zr_fr_up f3 (by omega)) (by omega)) (by omega)
  have k4' : ∀ k j, ¬ (k = 13 ∧ j = W) → ¬ (k = 1 ∧ j = 4) → ¬ (k = 3 ∧ j = 6) → K4 k j = K3 k j := fun k j q1 q2 q3 => by rw [eK4, zu_k2 q3, zu_k2 q1, zu_k2 q2]
  have k44 : K4 1 4 = nI (s.1 + 1 + c + 3) := by rw [eK4, zu_k (by omega), zu_k (by omega), zu_e]
  have k413 : K4 13 W = nI (tx (s.1 + 1 + c + 2) - 48) := by rw [eK4, zu_k (by omega), zu_e]
  have k436 : K4 3 6 = nI (W + 1) := by rw [eK4, zu_e]
  clear eK4
  have all : ∀ k j, ¬ (k = 5) → ¬ (k = 1 ∧ j = 4) → ¬ (k = 3 ∧ j = 6) → ¬ ((k = 6 ∨ k = 7 ∨ k = 8 ∨ k = 9 ∨ k = 13) ∧ j = W) → K4 k j = J k j := fun k j q1 q2 q3 q4 => by
    rw [k4' k j (by omega) (by omega) (by omega), k3 k j (by omega) (by omega), k2 k j (by omega) (by omega), k1 k j (by omega) (by omega), kk k j (by omega)]
  have all5 : ∀ j, K4 5 j = K 5 j := fun j => by
    rw [k4' 5 j (by omega) (by omega) (by omega), k3 5 j (by omega) (by omega), k2 5 j (by omega) (by omega), k1 5 j (by omega) (by omega)]
  have z47 : K4 7 W = nI (tx (s.1 + 1 + c) - 48) := by rw [k4' 7 W (by omega) (by omega) (by omega), k3 7 W (by omega) (by omega)]; exact k27
  have z48 : K4 8 W = nI (tx (s.1 + 1 + c + 1) - 48) := by rw [k4' 8 W (by omega) (by omega) (by omega)]; exact k38
  have z46 : K4 6 W = nI c := by rw [k4' 6 W (by omega) (by omega) (by omega), k3 6 W (by omega) (by omega), k2 6 W (by omega) (by omega)]; exact k16
  have z49 : K4 9 W = x3 := by rw [k4' 9 W (by omega) (by omega) (by omega), k3 9 W (by omega) (by omega), k2 9 W (by omega) (by omega)]; exact k19
  refine h K4 ?_
  have ew : zr_word1 tx n s c = (s.1 + 1 + c + 3, false, zr_lw tx s.2.2.1 (s.1 + 1) c, zx_set s.2.2.2.1 (11 + s.2.2.1 0 0) (tx (s.1 + 1 + c + 2) - 48), s.2.2.2.2) := by
    unfold zr_word1
    rw [if_neg hc2, if_neg (by rw [z]; decide), if_neg (by rw [z2]; decide), if_neg (by rw [z3]; decide)]
  rw [ew]
  obtain ⟨l1, l2, l3⟩ := lC
  obtain ⟨g1, g2, g3, g4, g5⟩ := pC
  refine ⟨f4, k44, ?_, fun _ => ⟨⟨?_, fun j hj => ?_, fun w hw => ?_⟩, ⟨?_, ?_, fun j hj => ?_, fun w hw => ?_, fun u hu => ?_⟩, ?_⟩⟩
  · rw [k4' 1 5 (by omega) (by omega) (by omega)]; exact k35
  · show K4 3 6 = nI (zr_lw tx s.2.2.1 (s.1 + 1) c 0 0)
    rw [zr_lw_0, ← eW]; exact k436
  · show K4 4 j = nI (zr_lw tx s.2.2.1 (s.1 + 1) c 1 j)
    rw [zr_lw_1, all 4 j (by omega) (by omega) (by omega) (by omega)]; exact l2 j hj
  · change w < zr_lw tx s.2.2.1 (s.1 + 1) c 0 0 at hw
    rw [zr_lw_0, ← eW] at hw
    show K4 6 w = nI (zr_lw tx s.2.2.1 (s.1 + 1) c 2 w) ∧ K4 7 w = nI (zr_lw tx s.2.2.1 (s.1 + 1) c 4 w) ∧ K4 8 w = nI (zr_lw tx s.2.2.1 (s.1 + 1) c 5 w) ∧ K4 9 w = nI (zx_sp (zr_lw tx s.2.2.1 (s.1 + 1) c) w) ∧ ∀ j, j < zr_lw tx s.2.2.1 (s.1 + 1) c 2 w → K4 5 (5 * w + j) = nI (zr_lw tx s.2.2.1 (s.1 + 1) c 3 (5 * w + j))
    have hsp : zx_sp (zr_lw tx s.2.2.1 (s.1 + 1) c) w = if w = W then zt_sum c (fun k => s.2.2.1 1 (tx (s.1 + 1 + k) - 97)) else zx_sp s.2.2.1 w := by
      unfold zx_sp zx_off
      rw [zr_lw_2, ← eW]
      by_cases e : w = W
      · rw [if_pos e, if_pos e]
        refine zt_sum_congr (fun i hi => ?_)
        rw [zr_lw_3, zr_lw_1, ← eW, if_pos (by omega), show 5 * w + i - 5 * W = i by omega]
      · rw [if_neg e, if_neg e]
        refine zt_sum_congr (fun i hi => ?_)
        have hb5 := (hl.2.2.2 w (by omega)).2.1
        rw [zr_lw_3, zr_lw_1, ← eW, if_neg (by omega)]
    rw [hsp, zr_lw_2, zr_lw_4, zr_lw_5, ← eW]
    by_cases e : w = W
    · subst e
      rw [if_pos rfl, if_pos rfl, if_pos rfl, if_pos rfl]
      refine ⟨z46, z47, z48, z49.trans e3, fun j hj => ?_⟩
      rw [zr_lw_3, ← eW, if_pos (by omega), Nat.add_sub_cancel_left, all5]
      exact kl j hj
    · rw [if_neg e, if_neg e, if_neg e, if_neg e]
      obtain ⟨b1, b2, b3, b4, b5⟩ := l3 w (by omega)
      have hb5 := (hl.2.2.2 w (by omega)).2.1
      refine ⟨?_, ?_, ?_, ?_, fun j hj => ?_⟩
      · rw [all 6 w (by omega) (by omega) (by omega) (by omega)]; exact b1
      · rw [all 7 w (by omega) (by omega) (by omega) (by omega)]; exact b2
      · rw [all 8 w (by omega) (by omega) (by omega) (by omega)]; exact b3
      · rw [all 9 w (by omega) (by omega) (by omega) (by omega)]; exact b4
      · rw [zr_lw_3, ← eW, if_neg (by omega), all5, klo _ (by omega)]
        exact b5 j hj
  · show K4 10 3 = nI (zx_set s.2.2.2.1 (11 + s.2.2.1 0 0) _ 0)
    rw [zx_set_ne (by omega), all 10 3 (by omega) (by omega) (by omega) (by omega)]; exact g1
  · show K4 10 4 = nI (zx_set s.2.2.2.1 (11 + s.2.2.1 0 0) _ 1)
    rw [zx_set_ne (by omega), all 10 4 (by omega) (by omega) (by omega) (by omega)]; exact g2
  · show K4 12 j = nI (zx_set s.2.2.2.1 (11 + s.2.2.1 0 0) _ (2 + j))
    rw [zx_set_ne (by omega), all 12 j (by omega) (by omega) (by omega) (by omega)]; exact g3 j hj
  · change w < zr_lw tx s.2.2.1 (s.1 + 1) c 0 0 at hw
    rw [zr_lw_0, ← eW] at hw
    show K4 13 w = nI (zx_set s.2.2.2.1 (11 + s.2.2.1 0 0) (tx (s.1 + 1 + c + 2) - 48) (11 + w))
    rw [← eW]
    by_cases e : w = W
    · subst e; rw [zx_set_at]; exact k413
    · rw [zx_set_ne (by omega), all 13 w (by omega) (by omega) (by omega) (by omega)]; exact g4 w (by omega)
  · change u < zx_set s.2.2.2.1 (11 + s.2.2.1 0 0) _ 0 at hu
    show K4 11 u = nI (zx_set s.2.2.2.1 (11 + s.2.2.1 0 0) _ (19 + u))
    rw [zx_set_ne (by omega)] at hu ⊢
    rw [all 11 u (by omega) (by omega) (by omega) (by omega)]; exact g5 u hu
  · show K4 1 6 = nI (zy_mk 9 s.2.2.2.2)
    rw [all 1 6 (by omega) (by omega) (by omega) (by omega)]; exact c16
theorem zs_parseWord {I0 J : zz_I} {L : zz_L} {P : zz_I → zz_L → Prop} {tx : Nat → Nat} {n : Nat} {s : zr_S} (hT : zr_T I0 tx n) (hC : zr_CS I0 J s) (hb : s.2.1 = false) (hok : zr_ok n s) (hs : s.1 < n) (h : ∀ K : zz_I, zr_CS I0 K (zr_word tx n s) → P K L) : zp_X4_parseWord P J L := by
  obtain ⟨hn, t1, t2⟩ := id hT
  obtain ⟨cf, c4, c5, cO⟩ := id hC
  obtain ⟨lC, pC, c16⟩ := cO hb
  rw [hb] at c5
  have hl := (hok.2 hb).1
  have h8 := hl.1
  have e36 : J 3 6 = nI (s.2.2.1 0 0) := lC.1
  unfold zp_X4_parseWord
  rw [e36, c4]
  rintro _ rfl
  refine ⟨fun z => absurd z (nI_pos (by omega)), fun _ => pk_lt (s.2.2.1 0 0) 8 (fun c => ?_) (fun c => ?_)⟩
  · have ew : zr_word tx n s = zr_word1 tx n s (zr_cn (zr_is tx n 97 0 5) 5 (s.1 + 1)) := by
      unfold zr_word; rw [if_neg (by omega)]
    rw [show nI s.1 + (1 : Int32) = nI (s.1 + 1) from nI_1 _]
    rintro _ rfl
    obtain ⟨W, eW⟩ : ∃ W, W = s.2.2.1 0 0 := ⟨_, rfl⟩
    rw [← eW]
    refine ⟨fun y2 y3 K N => ∃ i : Nat, i ≤ 5 ∧ y2 = nI i ∧ y3 = nI (zt_sum i (fun k => s.2.2.1 1 (tx (s.1 + 1 + k) - 97))) ∧ L = N ∧ zr_fr I0 K ∧ K 1 4 = nI (s.1 + 1 + i) ∧ K 1 5 = 0 ∧ s.1 + 1 + i ≤ n ∧ (∀ k j, ¬ (k = 5 ∨ (k = 1 ∧ j = 4)) → K k j = J k j) ∧ (∀ j, j < 5 * W → K 5 j = J 5 j) ∧ (∀ j, j < i → K 5 (5 * W + j) = nI (tx (s.1 + 1 + j) - 97)) ∧ zr_cn (zr_is tx n 97 0 5) 5 (s.1 + 1) = i + zr_cn (zr_is tx n 97 0 5) (5 - i) (s.1 + 1 + i), fun y2 _ _ _ => 5 - y2.toNatClampNeg, ⟨0, by omega, rfl, rfl, rfl, zr_fr_up cf (by omega), zu_e, (zu_k2 (by omega)).trans c5, by omega, fun k j q => zu_k2 (by omega), fun j _ => zu_k (by omega), fun j hj => absurd hj (by omega), (Nat.zero_add _).symm⟩, ?_⟩
    rintro y2 y3 K N ⟨i, hi, rfl, rfl, rfl, kf, k4, k5, kn, kk, klo, kl, kc⟩
    unfold zp_X4_parseWord_38b
    have out : zr_cn (zr_is tx n 97 0 5) 5 (s.1 + 1) = i → zp_X4_parseWord_105 P (nI W) (nI i) (nI (zt_sum i (fun k => s.2.2.1 1 (tx (s.1 + 1 + k) - 97)))) K L := by
      intro ec
      rw [ec] at ew
      refine pk_le 2 i (fun q => ?_) (fun q => ?_)
      · rw [eW] at klo kl ⊢
        exact zs_w115 hT hC hb hok c kf k4 k5 kn (by omega) hi kk klo kl rfl (fun M hM => h M (by rw [ew]; exact hM))
      · rintro _ rfl
        refine zs_w115B hT (zr_CB_of kf k4) kn (by omega) (fun M hM => h M ?_)
        rw [ew]
        unfold zr_word1
        rw [if_pos q]
        exact zr_CS_bad hM
    refine pk_le 5 i (fun q => out ?_) (fun q => ?_)
    · have : i = 5 := by omega
      subst this; exact kc
    · refine zs_peek (zr_fr_T kf hT) k4 kn (zs_isLet (fun q2 => (t2 _ q2).1) (zb_br (fun q2 => out ?_) (fun q2 => ?_)))
      · rw [zr_cn_f q q2] at kc; exact kc
      · have q3 := zr_is_t q2
        refine zs_peek (zr_fr_T kf hT) k4 kn ?_
        unfold zr_ch
        rw [if_pos q3.1, show nI (tx (s.1 + 1 + i)) - (97 : Int32) = nI (tx (s.1 + 1 + i) - 97) from pk_sub (b := 97) (by omega), zx_5, zn_cl (n := 5 * W + i) (by omega)]
        rintro _ rfl
        refine ⟨vp_in_nI (by omega) (by decide), ?_⟩
        rintro _ rfl
        refine zs_widthOf (b := 3) (lx := s.2.2.1) (x := tx (s.1 + 1 + i) - 97) (fun j hj => ?_) (by omega) ?_
        · rw [zu_k (by omega), kk 4 j (by omega)]; exact lC.2.1 j hj
        rw [nI_add, zu_k (show (1 : Nat) ≠ 5 by omega), k4, show nI (s.1 + 1 + i) + (1 : Int32) = nI (s.1 + 1 + i + 1) from nI_1 _]
        rintro _ rfl _ rfl _ rfl
        rw [zr_cn_t q q2] at kc
        refine ⟨⟨i + 1, by omega, nI_1 i, rfl, rfl, zr_fr_up (zr_fr_up kf (by omega)) (by omega), zu_e, ?_, by omega, fun k j hk => ?_, fun j hj => ?_, fun j hj => ?_, by omega⟩, zz_down (i := i) (n := 5) (by omega) (by omega)⟩
        · rw [zu_k2 (by omega), zu_k (by omega)]; exact k5
        · rw [zu_k2 (by omega), zu_k (by omega)]; exact kk k j hk
        · rw [zu_k (by omega), zu_i (by omega)]; exact klo j hj
        · rw [zu_k (by omega)]
          by_cases e : j = i
          · subst e; rw [zu_e]
          · rw [zu_i (by omega)]; exact kl j (by omega)
  · rintro _ rfl
    refine h _ ?_
    unfold zr_word
    rw [if_pos (by omega)]
    exact zr_CS_bad (zr_CB_of cf c4)
