theorem zx_657 {u a : Nat} : ((657 : Int32) * nI u) + ((73 : Int32) * nI a) = nI (657 * u + 73 * a) := by rw [show (657 : Int32) * nI u = nI (657 * u) from pk_mul 657 u, show (73 : Int32) * nI a = nI (73 * a) from pk_mul 73 a, nI_add]
section
variable {I : zz_I} {L : zz_L} {lx : Nat → Nat → Nat} {pg : Nat → Nat} {n : Nat} {sw su si : Nat → Nat} {op fo g : Nat → Nat → Bool}
theorem zs_addHeavy {P : zz_I → zz_L → Prop} (hl : zx_lexOK lx) (hp : zx_pgOK lx pg) (hm : zx_mm I lx pg n sw su si) {u w A : Nat} (hw : w < lx 0 0) (hu : u < pg 0) (hle : u + zx_sp lx w ≤ pg 0) (hA : A + 73 ≤ 657 * (u + 1)) (hg : ∀ v, g w v = fo w v) {R : Nat → Nat} (hR : ∀ t, t < 73 → L 22 (A + t) = lN (R t)) (hF : ∀ x a t, u < x → x ≤ pg 0 → a ≤ 8 → t < 73 → L 22 (657 * x + 73 * a + t) = lN (zk_HV (pg 0) (lx 0 0) (zx_sp lx) (fun w => pg (11 + w)) op fo g x a t)) (h : ∀ M : zz_L, (∀ k j, ¬ (k = 22 ∧ A ≤ j ∧ j < A + 73) → M k j = L k j) → (∀ t, t < 73 → M 22 (A + t) = lN (R t + zk_T (pg 0) (lx 0 0) (zx_sp lx) (fun w => pg (11 + w)) op fo u w t)) → P I M) : zp_X8_addHeavy 14 (nI A) (nI w) (nI u) P I L := by
  obtain ⟨lM, pM, hk, -⟩ := hm
  have h8 := hl.1
  have h24 := hp.1
  have hsp := zx_sp_bd hl hw
  have hwt := hp.2.2.2.1 w hw
  have e0 : I 14 (0 : Int32).toNatClampNeg = nI (pg 0) := pM.1
  have e11 : I 14 (11 + w) = nI (pg (11 + w)) := by
    have := pM.2.2.2.1 w hw
    rw [Nat.zero_add] at this; exact this
  refine zs_unitsOf hl lM hw ?_
  rw [nI_add]
  rintro _ rfl
  rw [show (11 : Int32) + nI w = nI (11 + w) from nI_add 11 w, zn_cl (n := 11 + w) (by omega), e11]
  refine ⟨vp_in_nI (by omega) (by decide), ?_⟩
  rintro _ rfl
  rw [e0]
  refine ⟨pk_in 0 43 (by decide), fun q => ?_, fun q => ?_⟩
  · have hne : ¬ u + zx_sp lx w = pg 0 := fun z => q (by rw [z])
    refine ⟨fun y J M => ∃ i : Nat, i + pg (11 + w) ≤ 73 ∧ y = nI i ∧ I = J ∧ (∀ k j, ¬ (k = 22 ∧ A ≤ j ∧ j < A + 73) → M k j = L k j) ∧ (∀ t, t < 73 → M 22 (A + t) = lN (R t + if t < pg (11 + w) + i then zk_T (pg 0) (lx 0 0) (zx_sp lx) (fun w => pg (11 + w)) op fo u w t else 0)), fun y _ _ => 73 - y.toNatClampNeg, ⟨0, by omega, rfl, rfl, fun _ _ _ => rfl, fun t ht => ?_⟩, ?_⟩
    · rw [hR t ht]
      by_cases z : t < pg (11 + w) + 0
      · rw [if_pos z, zk_T_lt (wt := fun w => pg (11 + w)) (w := w) (t := t) z, Nat.add_zero]
      · rw [if_neg z, Nat.add_zero]
    rintro y J M ⟨i, hi, rfl, rfl, hf, hs⟩
    unfold zp_X8_addHeavy_43b
    rw [nI_add]
    refine pk_le 73 (i + pg (11 + w)) (fun c => ?_) (fun c => ?_)
    · refine h M hf (fun t ht => ?_)
      rw [hs t ht, if_pos (by omega)]
    · have e1 : (nI A + nI (pg (11 + w))) + nI i = nI (A + (pg (11 + w) + i)) := by rw [nI_add, nI_add, Nat.add_assoc]
      have e2 : (((657 : Int32) * (nI (u + zx_sp lx w) + (1 : Int32))) + ((73 : Int32) * nI w)) + nI i = nI (657 * (u + zx_sp lx w + 1) + 73 * w + i) := by
        rw [show nI (u + zx_sp lx w) + (1 : Int32) = nI (u + zx_sp lx w + 1) from nI_1 _, zx_657, nI_add]
      rw [e1, e2, zn_cl (n := A + (pg (11 + w) + i)) (by omega), zn_cl (n := 657 * (u + zx_sp lx w + 1) + 73 * w + i) (by omega), hs (pg (11 + w) + i) (by omega), if_neg (by omega), Nat.add_zero, hf 22 (657 * (u + zx_sp lx w + 1) + 73 * w + i) (by omega), hF (u + zx_sp lx w + 1) w i (by omega) (by omega) (by omega) (by omega), lN_add]
      refine ⟨vp_in_nI (by omega) (by decide), vp_in_nI (by omega) (by decide), vp_in_nI (by omega) (by decide), ?_⟩
      rintro _ rfl _ rfl
      refine ⟨⟨i + 1, by omega, nI_1 i, rfl, fun k j hk => ?_, fun t ht => ?_⟩, zz_down (i := i) (n := 73) (by omega) (by omega)⟩
      · rw [zu_k2 (by omega)]; exact hf k j hk
      · by_cases e : t = pg (11 + w) + i
        · subst e
          rw [zu_e, if_pos (by omega), zk_T_HV (wt := fun w => pg (11 + w)) hg hu hne (show (fun w => pg (11 + w)) w ≤ pg (11 + w) + i by show pg (11 + w) ≤ _; omega)]
          congr 2
          show _ = zk_HV _ _ _ _ _ _ _ _ _ (pg (11 + w) + i - pg (11 + w))
          rw [Nat.add_sub_cancel_left]
        · rw [zu_i (by omega), hs t ht]
          by_cases z : t < pg (11 + w) + i
          · rw [if_pos z, if_pos (by omega)]
          · rw [if_neg z, if_neg (by omega)]
  · have he : u + zx_sp lx w = pg 0 := zn_j (by omega) (by omega) q
    rw [nI_add, zn_cl (n := A + pg (11 + w)) (by omega), hR (pg (11 + w)) (by omega), show lN (R (pg (11 + w))) + (1 : Int64) = lN (R (pg (11 + w)) + 1) from lN_1 _]
    refine ⟨vp_in_nI (by omega) (by decide), vp_in_nI (by omega) (by decide), ?_⟩
    rintro _ rfl
    refine h _ (fun k j hk => ?_) (fun t ht => ?_)
    · rw [zu_k2 (by omega)]
    · rw [zk_T_end hu he]
      by_cases e : t = pg (11 + w)
      · subst e; rw [zu_e, if_pos rfl]
      · rw [zu_i (by omega), if_neg e, hR t ht, Nat.add_zero]
theorem zs_layHeavy {P : zz_I → zz_L → Prop} {b : Bool} (hl : zx_lexOK lx) (hp : zx_pgOK lx pg) (hm : zx_mm I lx pg n sw su si) (h : ∀ M : zz_L, (∀ k j, k ≠ 22 → M k j = L k j) → (∀ u a t, u ≤ pg 0 → a ≤ 8 → t < 73 → M 22 (657 * u + 73 * a + t) = lN (zk_HV (pg 0) (lx 0 0) (zx_sp lx) (fun w => pg (11 + w)) (zx_os lx pg b n sw su si) (zx_fo lx pg) (zx_g I 14 lx pg) u a t)) → P I M) : zp_X8_layHeavy 14 (zb_i b) P I L := by
  obtain ⟨lM, pM, hk, -⟩ := id hm
  have h8 := hl.1
  have h24 := hp.1
  have e0 : I 14 (0 : Int32).toNatClampNeg = nI (pg 0) := pM.1
  have e5 : I 0 5 = nI (lx 0 0) := lM.1
  unfold zp_X8_layHeavy
  rw [e0]
  refine ⟨pk_in 0 43 (by decide), ?_⟩
  rintro _ rfl
  rw [show nI (pg 0) = nI (pg 0 + 1) - 1 from (nI_pred _).symm]
  obtain ⟨F, eF⟩ : ∃ F, F = zk_HV (pg 0) (lx 0 0) (zx_sp lx) (fun w => pg (11 + w)) (zx_os lx pg b n sw su si) (zx_fo lx pg) (zx_g I 14 lx pg) := ⟨_, rfl⟩
  rw [← eF] at h
  refine ⟨fun y J M => ∃ i : Nat, i ≤ pg 0 + 1 ∧ y = nI i - 1 ∧ I = J ∧ (∀ k j, k ≠ 22 → M k j = L k j) ∧ (∀ u a t, i ≤ u → u ≤ pg 0 → a ≤ 8 → t < 73 → M 22 (657 * u + 73 * a + t) = lN (F u a t)), fun y _ _ => (y + 1).toNatClampNeg, ⟨pg 0 + 1, by omega, rfl, rfl, fun _ _ _ => rfl, fun u a t q1 q2 => by omega⟩, ?_⟩
  rintro y J M ⟨i, hi, rfl, rfl, hf, hb⟩
  unfold zp_X8_layHeavy_4b
  cases i with
  | zero => exact ⟨fun _ => h M hf (fun u a t => hb u a t (by omega)), fun c => absurd zz_neg0 c⟩
  | succ m =>
    rw [nI_pred m]
    refine ⟨fun c => absurd c (nI_pos (by omega)), fun _ => ?_⟩
    refine ⟨fun y J M => ∃ j : Nat, j ≤ 9 ∧ y = nI j ∧ I = J ∧ (∀ k j, k ≠ 22 → M k j = L k j) ∧ (∀ u a t, (m + 1 ≤ u ∨ (u = m ∧ a < j)) → u ≤ pg 0 → a ≤ 8 → t < 73 → M 22 (657 * u + 73 * a + t) = lN (F u a t)), fun y _ _ => 9 - y.toNatClampNeg, ⟨0, by omega, rfl, rfl, hf, fun u a t q => hb u a t (by omega)⟩, ?_⟩
    clear hb hf
    rintro y J M ⟨a, ha, rfl, rfl, hf, hb⟩
    unfold zp_X8_layHeavy_11b
    refine pk_lt 8 a (fun c => ?_) (fun c => ?_)
    · rintro _ rfl
      exact ⟨⟨m, by omega, zz_m1 _, rfl, hf, fun u a2 t q1 q2 q3 => hb u a2 t (by omega) q2 q3⟩, zz_dec (by omega)⟩
    · rw [zx_657]
      rintro _ rfl
      obtain ⟨B, eB⟩ : ∃ B, B = 657 * m + 73 * a := ⟨_, rfl⟩
      have hB : B + 73 ≤ 657 * (m + 1) := by omega
      rw [← eB]
      have out : ∀ N : zz_L, (∀ k j, ¬ (k = 22 ∧ B ≤ j ∧ j < B + 73) → N k j = M k j) → (∀ t, t < 73 → N 22 (B + t) = lN (F m a t)) → ∀ v121 : Int32, v121 = nI a + (1 : Int32) → (∃ j : Nat, j ≤ 9 ∧ v121 = nI j ∧ I = I ∧ (∀ k j, k ≠ 22 → N k j = L k j) ∧ (∀ u a t, (m + 1 ≤ u ∨ (u = m ∧ a < j)) → u ≤ pg 0 → a ≤ 8 → t < 73 → N 22 (657 * u + 73 * a + t) = lN (F u a t))) ∧ 9 - v121.toNatClampNeg < 9 - (nI a).toNatClampNeg := by
        rintro N nf ns _ rfl
        refine ⟨⟨a + 1, by omega, nI_1 a, rfl, fun k j hk => ?_, fun u a2 t q1 q2 q3 q4 => ?_⟩, zz_down (i := a) (n := 9) (by omega) (by omega)⟩
        · rw [nf k j (fun z => hk z.1)]; exact hf k j hk
        · by_cases e : u = m ∧ a2 = a
          · obtain ⟨rfl, rfl⟩ := e
            rw [← eB]; exact ns t q4
          · have hne : ¬ (B ≤ 657 * u + 73 * a2 + t ∧ 657 * u + 73 * a2 + t < B + 73) := by omega
            rw [nf 22 _ (fun z => hne z.2)]
            exact hb u a2 t (by omega) q2 q3 q4
      refine ⟨fun y J N => ∃ i : Nat, i ≤ 73 ∧ y = nI i ∧ I = J ∧ (∀ k j, ¬ (k = 22 ∧ B ≤ j ∧ j < B + 73) → N k j = M k j) ∧ ∀ t, t < i → N 22 (B + t) = lN 0, fun y _ _ => 73 - y.toNatClampNeg, ⟨0, by omega, rfl, rfl, fun _ _ _ => rfl, fun t ht => absurd ht (by omega)⟩, ?_⟩
      rintro y J N ⟨i, hi, rfl, rfl, nf, ns⟩
      unfold zp_X8_layHeavy_34b
      refine pk_le 73 i (fun c1 => ?_) (fun c1 => ?_)
      · have : i = 73 := by omega
        subst this
        refine ⟨fun y J N => ∃ j : Nat, j ≤ lx 0 0 ∧ y = nI j ∧ I = J ∧ (∀ k j, ¬ (k = 22 ∧ B ≤ j ∧ j < B + 73) → N k j = M k j) ∧ (∀ t, t < 73 → N 22 (B + t) = lN (zt_sum j (fun w => if zx_os lx pg b n sw su si m w && zx_g I 14 lx pg a w then zk_T (pg 0) (lx 0 0) (zx_sp lx) (fun w => pg (11 + w)) (zx_os lx pg b n sw su si) (zx_fo lx pg) m w t else 0))), fun y _ _ => 8 - y.toNatClampNeg, ⟨0, by omega, rfl, rfl, nf, ns⟩, ?_⟩
        clear ns nf
        rintro y J N ⟨j, hj, rfl, rfl, nf, ns⟩
        unfold zp_X8_layHeavy_61b
        rw [e0]
        refine pk_le (lx 0 0) j (fun c2 => out N nf (fun t ht => ?_)) (fun c2 => ⟨pk_in 0 43 (by decide), ?_⟩) (hx := e5)
        · have : j = lx 0 0 := by omega
          subst this; rw [eF]; exact ns t ht
        · refine pk_le (pg 0) m (fun c3 => out N nf (fun t ht => ?_)) (fun c3 => ?_)
          · rw [ns t ht, eF]
            unfold zk_HV
            have z : ∀ w, (if zx_os lx pg b n sw su si m w && zx_g I 14 lx pg a w then zk_T (pg 0) (lx 0 0) (zx_sp lx) (fun w => pg (11 + w)) (zx_os lx pg b n sw su si) (zx_fo lx pg) m w t else 0) = 0 := fun w => by
              rw [zk_T_no c3]; simp
            rw [zt_sum_zero (fun w _ => z w), zt_sum_zero (fun w _ => z w)]
          · have skip : (zx_os lx pg b n sw su si m j && zx_g I 14 lx pg a j) = false → ∀ v115 : Int32, v115 = nI j + (1 : Int32) → (∃ j2 : Nat, j2 ≤ lx 0 0 ∧ v115 = nI j2 ∧ I = I ∧ (∀ k j, ¬ (k = 22 ∧ B ≤ j ∧ j < B + 73) → N k j = M k j) ∧ (∀ t, t < 73 → N 22 (B + t) = lN (zt_sum j2 (fun w => if zx_os lx pg b n sw su si m w && zx_g I 14 lx pg a w then zk_T (pg 0) (lx 0 0) (zx_sp lx) (fun w => pg (11 + w)) (zx_os lx pg b n sw su si) (zx_fo lx pg) m w t else 0)))) ∧ 8 - v115.toNatClampNeg < 8 - (nI j).toNatClampNeg := by
              rintro q _ rfl
              refine ⟨⟨j + 1, by omega, nI_1 j, rfl, nf, fun t ht => ?_⟩, zz_down (i := j) (n := 8) (by omega) (by omega)⟩
              rw [ns t ht]; simp only [zt_sum]; rw [q]; rfl
            refine zs_fitsS hl hp hm c2 (by omega) (by omega) skip (fun q => ?_)
            have q' := q
            rw [Bool.and_eq_true] at q'
            have hfit : zx_fit lx pg m j = true := by
              have := q'.1
              unfold zx_os at this
              rw [Bool.and_eq_true] at this; exact this.1
            have hle := zx_fit_le hl hp c2 hfit
            refine zs_addHeavy (op := zx_os lx pg b n sw su si) (fo := zx_fo lx pg) (g := zx_g I 14 lx pg) hl hp hm c2 c3 hle hB (fun v => zx_gw h8 c2) (R := fun t => zt_sum j (fun w => if zx_os lx pg b n sw su si m w && zx_g I 14 lx pg a w then zk_T (pg 0) (lx 0 0) (zx_sp lx) (fun w => pg (11 + w)) (zx_os lx pg b n sw su si) (zx_fo lx pg) m w t else 0)) ns (fun x a2 t q1 q2 q3 q4 => ?_) (fun K kf ks => ?_)
            · have hne : ¬ (B ≤ 657 * x + 73 * a2 + t ∧ 657 * x + 73 * a2 + t < B + 73) := by omega
              rw [nf 22 _ (fun z => hne z.2), ← eF]
              exact hb x a2 t (Or.inl (by omega)) q2 q3 q4
            · rintro _ rfl
              refine ⟨⟨j + 1, by omega, nI_1 j, rfl, fun k j2 hk => ?_, fun t ht => ?_⟩, zz_down (i := j) (n := 8) (by omega) (by omega)⟩
              · rw [kf k j2 hk]; exact nf k j2 hk
              · rw [ks t ht]; simp only [zt_sum]; rw [q]; rfl
      · rw [nI_add, zn_cl (n := B + i) (by omega)]
        refine ⟨vp_in_nI (by omega) (by decide), ?_⟩
        rintro _ rfl _ rfl
        refine ⟨⟨i + 1, by omega, nI_1 i, rfl, fun k j hk => ?_, fun t ht => ?_⟩, zz_down (i := i) (n := 73) (by omega) (by omega)⟩
        · rw [zu_k2 (by omega)]; exact nf k j hk
        · by_cases e : t = i
          · subst e; rw [zu_e]; rfl
          · rw [zu_i (by omega)]; exact ns t (by omega)
theorem zs_heavyBehind {P : Int64 → Prop} (hl : zx_lexOK lx) (hp : zx_pgOK lx pg) (hm : zx_mm I lx pg n sw su si) {u w left : Nat} (hw : w < lx 0 0) (hu : u < pg 0) (hle : u + zx_sp lx w ≤ pg 0) (hg : ∀ v, g w v = fo w v) (hlf : left ≤ 72) (hF : ∀ x a t, x ≤ pg 0 → a ≤ 8 → t < 73 → L 22 (657 * x + 73 * a + t) = lN (zk_HV (pg 0) (lx 0 0) (zx_sp lx) (fun w => pg (11 + w)) op fo g x a t)) (h : P (lN (zk_T (pg 0) (lx 0 0) (zx_sp lx) (fun w => pg (11 + w)) op fo u w left))) : zp_X8_heavyBehind 14 (nI w) (nI u) (nI left) P I L := by
  obtain ⟨lM, pM, hk, -⟩ := hm
  have h8 := hl.1
  have h24 := hp.1
  have hsp := zx_sp_bd hl hw
  have hwt := hp.2.2.2.1 w hw
  have e0 : I 14 (0 : Int32).toNatClampNeg = nI (pg 0) := pM.1
  have e11 : I 14 (11 + w) = nI (pg (11 + w)) := by
    have := pM.2.2.2.1 w hw
    rw [Nat.zero_add] at this; exact this
  refine zs_unitsOf hl lM hw ?_
  rw [nI_add]
  rintro _ rfl
  rw [show (11 : Int32) + nI w = nI (11 + w) from nI_add 11 w, zn_cl (n := 11 + w) (by omega), e11, e0]
  refine ⟨vp_in_nI (by omega) (by decide), ?_⟩
  rintro _ rfl
  by_cases hc : pg (11 + w) ≤ left
  · rw [pk_sub hc]
    refine ⟨fun _ => ⟨pk_in 0 43 (by decide), fun q => ?_, fun q => ?_⟩, fun z => absurd ((nI_leI (a := 0) (by omega) (by omega)).mpr (by omega)) z⟩
    · have hne : ¬ u + zx_sp lx w = pg 0 := fun z => q (by rw [z])
      rw [show nI (u + zx_sp lx w) + (1 : Int32) = nI (u + zx_sp lx w + 1) from nI_1 _, zx_657, nI_add, zn_cl (n := 657 * (u + zx_sp lx w + 1) + 73 * w + (left - pg (11 + w))) (by omega), hF (u + zx_sp lx w + 1) w (left - pg (11 + w)) (by omega) (by omega) (by omega)]
      refine ⟨vp_in_nI (by omega) (by decide), ?_⟩
      rw [zk_T_HV (wt := fun w => pg (11 + w)) hg hu hne hc] at h
      exact h
    · have he : u + zx_sp lx w = pg 0 := zn_j (by omega) (by omega) q
      rw [zk_T_end hu he] at h
      refine ⟨fun q2 => ?_, fun q2 => ?_⟩
      · have : ¬ left = pg (11 + w) := fun z => q2 (by rw [z, Nat.sub_self]; rfl)
        rw [if_neg this] at h; exact h
      · have : left - pg (11 + w) = 0 := zn_j (j := 0) (by omega) (by omega) q2
        rw [if_pos (show left = pg (11 + w) by omega)] at h; exact h
  · rw [zk_T_lt (wt := fun w => pg (11 + w)) (w := w) (t := left) (Nat.lt_of_not_le hc)] at h
    have hn := pk_sneg (a := left) (b := pg (11 + w)) (by omega) (by omega)
    exact ⟨fun z => absurd hn (Int32.not_lt.mpr z), fun _ => h⟩
end
