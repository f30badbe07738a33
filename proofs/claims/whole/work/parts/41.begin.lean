theorem zs_begin {k0 : Nat} {I : zz_I} {L : zz_L} {P : zz_I → zz_L → Prop} (h : ∀ J : zz_I, (∀ k j, k ≠ k0 → J k j = I k j) → (∀ j, j < 43 → J k0 j = nI (if 2 ≤ j ∧ j < 11 then 1 else 0)) → P J L) : zp_X8_begin k0 P I L := by
  refine ⟨fun y J M => ∃ i, i ≤ 43 ∧ y = nI i ∧ M = L ∧ (∀ k j, k ≠ k0 → J k j = I k j) ∧ (∀ j, j < i → J k0 j = nI (if 2 ≤ j ∧ j < 11 then 1 else 0)), fun y _ _ => 43 - y.toNatClampNeg, ⟨0, by omega, rfl, rfl, fun _ _ _ => rfl, fun j hj => absurd hj (by omega)⟩, ?_⟩
  rintro y J M ⟨i, hi, rfl, rfl, hf, hb⟩
  unfold zp_X8_begin_2b
  have go : ∀ v : Int32, v = nI (if 2 ≤ i ∧ i < 11 then 1 else 0) → ¬ 43 ≤ i → ∀ K, K = zz_up J k0 (nI i).toNatClampNeg v → ∀ z, z = nI i + 1 → (∃ i2, i2 ≤ 43 ∧ z = nI i2 ∧ M = M ∧ (∀ k j, k ≠ k0 → K k j = I k j) ∧ (∀ j, j < i2 → K k0 j = nI (if 2 ≤ j ∧ j < 11 then 1 else 0))) ∧ 43 - z.toNatClampNeg < 43 - (nI i).toNatClampNeg := by
    intro v hv c K eK z ez
    subst eK; subst ez
    rw [zn_cl (by omega)]
    refine ⟨⟨i + 1, by omega, nI_1 i, rfl, fun k j hk => (zu_k hk).trans (hf k j hk), fun j hj => ?_⟩, ?_⟩
    · by_cases q : j = i
      · subst q; rw [zu_e, hv]
      · rw [zu_i q]; exact hb j (by omega)
    · have := zz_down (n := 43) (i := i) (by omega) (by decide)
      rw [zn_cl (by omega)] at this
      exact this
  refine pk_le 43 i (fun c => h J hf (fun j hj => hb j (by omega))) (fun c => ?_)
  refine pk_lt i 2 (fun c2 => ?_) (fun c2 => pk_le 11 i (fun c3 => ?_) (fun c3 => ?_))
  · exact ⟨vp_in_nI (by omega) (by decide), go 0 (by rw [if_neg (by omega)]; rfl) (by omega)⟩
  · exact ⟨vp_in_nI (by omega) (by decide), go 0 (by rw [if_neg (by omega)]; rfl) (by omega)⟩
  · exact ⟨vp_in_nI (by omega) (by decide), go 1 (by rw [if_pos (by omega)]; rfl) (by omega)⟩
theorem zx_fill7 {n j : Nat} (h : j < n) : zz_fill (fun _ _ => (0 : Int32)) 0 n 1 0 j = nI 1 := by
  have : zz_fill (fun _ _ => (0 : Int32)) 0 n 1 0 j = if 0 = 0 ∧ j < n then 1 else 0 := rfl
  rw [this, if_pos ⟨rfl, h⟩]; rfl
theorem zx_start : zp_X8_initc (fun IM LM => zx_R zz_I0 zz_L0 IM LM) (fun _ _ => 0) (fun _ _ => 0) := by
  refine ⟨fun y J M => ∃ i, i ≤ 7 ∧ y = nI i ∧ M = (fun _ _ => 0) ∧ (∀ k j, k ≠ 2 → J k j = 0) ∧ (∀ j, j < i → J 2 j = nI 1), fun y _ _ => 7 - y.toNatClampNeg, ⟨0, by omega, rfl, rfl, fun _ _ _ => rfl, fun j hj => absurd hj (by omega)⟩, ?_⟩
  rintro y J M ⟨i, hi, rfl, rfl, hf, hb⟩
  unfold zp_X8_initc_218b
  refine pk_le 7 i (fun c => ?_) (fun c => ?_)
  · refine zs_begin (fun K kf kb => ?_)
    have hi7 : i = 7 := by omega
    subst hi7
    have K0 : ∀ k j, k ≠ 14 → k ≠ 2 → K k j = 0 := fun k j h1 h2 => (kf k j h1).trans (hf k j h2)
    have K2 : ∀ j, j < 7 → K 2 j = nI 1 := fun j hj => (kf 2 j (by omega)).trans (hb j hj)
    refine ⟨fun k _ => if k = 1 then 1 else 0, fun j => if 2 ≤ j ∧ j < 11 then 1 else 0, ⟨?_, ?_, ?_, ?_, ?_, ?_⟩, ⟨0, 0, fun _ j => if 2 ≤ j ∧ j < 11 then 1 else 0, ?_⟩, Or.inl ⟨rfl, K0 _ _ (by omega) (by omega)⟩, Or.inl ⟨rfl, K0 _ _ (by omega) (by omega)⟩, ⟨0, fun _ => 0, by omega, rfl, K0 _ _ (by omega) (by omega), fun j hj => absurd hj (by omega)⟩, ⟨0, fun _ => 0, fun _ => 0, fun _ => 0, by omega, rfl, K0 _ _ (by omega) (by omega), fun j hj => absurd hj (by omega)⟩, rfl, ?_, Or.inl rfl, fun j _ => ⟨0, by omega, K0 _ _ (by omega) (by omega)⟩, fun j _ => ⟨0, by omega, K0 _ _ (by omega) (by omega)⟩⟩
    · exact ⟨by decide, fun j _ => ⟨by simp, by simp⟩, rfl, fun w hw => absurd hw (by simp)⟩
    · refine ⟨by simp, by simp, fun j hj => ?_, fun w hw => absurd hw (by simp), fun u hu => absurd hu (by simp), fun u hu => absurd hu (by simp)⟩
      show (if 2 ≤ 2 + j ∧ 2 + j < 11 then 1 else 0) ≤ 2
      split <;> omega
    · exact ⟨rfl, fun j hj => zx_fill7 hj, fun w hw => absurd hw (by simp)⟩
    · exact ⟨K0 _ _ (by omega) (by omega), fun j hj => K2 j hj, fun w hw => absurd hw (by simp)⟩
    · refine ⟨rfl, rfl, fun j hj => ?_, fun w hw => absurd hw (by simp), fun u hu => absurd hu (by simp)⟩
      show zz_fill (fun _ _ => (0 : Int32)) 0 9 1 0 j = nI (if 2 ≤ 2 + j ∧ 2 + j < 11 then 1 else 0)
      rw [if_pos (by omega)]
      exact zx_fill7 hj
    · refine ⟨kb 0 (by omega), kb 1 (by omega), fun j hj => ?_, fun w hw => absurd hw (by simp), fun u hu => absurd hu (by simp)⟩
      rw [Nat.zero_add]; exact kb _ (by omega)
    · exact ⟨by omega, by omega, rfl, rfl, K0 _ _ (by omega) (by omega), rfl, fun i hi => absurd hi (by omega)⟩
    · exact zx_fill7 (n := 7) (j := 6) (by omega)
  · refine ⟨vp_in_nI (by omega) (by decide), ?_⟩
    rw [zn_cl (by omega)]
    rintro _ rfl _ rfl
    refine ⟨⟨i + 1, by omega, nI_1 i, rfl, fun k j hk => (zu_k hk).trans (hf k j hk), fun j hj => ?_⟩, zz_down (n := 7) (by omega) (by decide)⟩
    by_cases q : j = i
    · subst q; rw [zu_e]; rfl
    · rw [zu_i q]; exact hb j (by omega)
