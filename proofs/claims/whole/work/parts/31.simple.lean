/-! calls that touch little -/
theorem zx_R0 {IC IM : zz_I} {LC LM : zz_L} (h : zx_R IC LC IM LM) : zx_R IC LC (zz_up IM 0 0 0) LM := by
  obtain ⟨lx, pg, hm, ⟨d, nx, pgs, hh⟩, h1, h2, ⟨n, tx, ht⟩, ⟨k, sw, su, si, hs⟩, hz⟩ := h
  exact ⟨lx, pg, hm, ⟨d, nx, pgs, hh⟩, h1, h2, ⟨n, tx, ht⟩, ⟨k, sw, su, si, hs⟩, hz⟩
theorem zo_0_ok : zo_0 zx_R := by
  intro IC LC IM LM p0 hR
  have hR0 := zx_R0 hR
  obtain ⟨lx, pg, hm, hh, h1, h2, ⟨n, tx, ht⟩, hs, hz⟩ := hR
  obtain ⟨hn, eC, eM, hj⟩ := ht
  have hM : ∀ r : Int32, (p0 < 0 ∨ nI 256 ≤ p0) → r = -2 → zp_X8_write p0 (fun r2 IM2 LM2 => r = r2 ∧ zx_R IC LC IM2 LM2) IM LM := by
    intro r hb er I2 eI2
    subst eI2
    have e1 : (0 : Int64) = (0 : Int32).toInt64 := by decide
    have e2 : (255 : Int64) = (255 : Int32).toInt64 := by decide
    rw [e1, e2]
    refine zs_X8_in (fun _ => ⟨fun q => absurd rfl q, fun _ => ⟨er, hR0⟩⟩) (fun c1 c2 => ?_)
    rcases hb with hb | hb
    · exact absurd hb c1
    · exact absurd (Int32.lt_of_lt_of_le (by decide) hb) c2
  unfold zp_X7_write
  rcases zn_ix p0 (n := 256) (by decide) with hb | ⟨j, hj256, ej⟩
  · refine ⟨fun c => hM _ hb rfl, fun c => ⟨fun c2 => ?_, fun c2 => hM _ hb rfl⟩⟩
    rcases hb with hb | hb
    · exact absurd hb c
    · exact absurd (Int32.le_trans hb c2) (by decide)
  · subst ej
    refine ⟨fun c => absurd c (nI_pos (by omega)), fun _ => ⟨fun _ => ?_, fun c => absurd (nI_le (b := 255) (by omega) (by decide)) c⟩⟩
    have hMs : ∀ (r : Int32) (IC2 : zz_I), ((n = 110 → r = -4 ∧ zx_R IC2 LC (zz_up IM 0 0 0) LM) ∧ (n ≠ 110 → r = nI (n + 1) ∧ zx_R IC2 LC (zz_up (zz_up (zz_up IM 0 0 0) 1 n (nI j)) 0 2 (nI (n + 1))) LM)) → zp_X8_write (nI j) (fun r2 IM2 LM2 => r = r2 ∧ zx_R IC2 LC IM2 LM2) IM LM := by
      intro r IC2 hk I2 eI2
      subst eI2
      have e1 : (0 : Int64) = (0 : Int32).toInt64 := by decide
      have e2 : (255 : Int64) = (255 : Int32).toInt64 := by decide
      rw [e1, e2]
      refine zs_X8_in (fun c => ?_) (fun _ _ => ⟨fun _ => ?_, fun q => absurd q (by decide)⟩)
      · rcases c with c | c
        · exact absurd c (nI_pos (by omega))
        · exact absurd c (nI_nlt (a := 255) (by omega) (by decide))
      · have eM2 : zz_up IM 0 0 0 0 2 = nI n := eM
        rw [eM2]
        refine ⟨fun c => ?_, fun c => ?_⟩
        · have hne : n ≠ 110 := fun q => c (by rw [q]; rfl)
          obtain ⟨g1, g2⟩ := hk.2 hne
          refine ⟨vp_in_nI (by omega) (by decide), ?_⟩
          intro I41 eI41 I49 eI49
          subst eI41
          have e3 : zz_up (zz_up IM 0 0 0) 1 (nI n).toNatClampNeg (nI j) 0 2 = nI n := eM
          rw [e3, show nI n + (1 : Int32) = nI (n + 1) from nI_1 n, zn_cl (by omega)] at eI49
          subst eI49
          have e4 : zz_up (zz_up (zz_up IM 0 0 0) 1 n (nI j)) 0 2 (nI (n + 1)) 0 2 = nI (n + 1) := rfl
          rw [e4]
          exact ⟨g1, g2⟩
        · have hne : n = 110 := zn_j (by omega) (by decide) c
          exact hk.1 hne
    rw [eC]
    refine ⟨fun c => ?_, fun c => ?_⟩
    · have hlt : n < 110 := (nI_ltI (by omega) (by decide)).mp c
      unfold zp_X4_append
      rw [eC]
      refine ⟨fun q => absurd q (nI_pos (by omega)), fun _ => ⟨fun q => absurd ((nI_leI (a := 110) (by decide) (by omega)).mp q) (by omega), fun _ => ?_⟩⟩
      refine ⟨vp_in_nI (by omega) (by decide), ?_⟩
      intro I15 eI15 I20 eI20
      subst eI15
      have e3 : zz_up IC 2 (nI n).toNatClampNeg (nI j) 1 1 = nI n := eC
      rw [e3, show nI n + (1 : Int32) = nI (n + 1) from nI_1 n, zn_cl (by omega)] at eI20
      subst eI20
      have e4 : zz_up (zz_up IC 2 n (nI j)) 1 1 (nI (n + 1)) 1 1 = nI (n + 1) := rfl
      rw [e4]
      refine hMs _ _ ⟨fun q => absurd q (by omega), fun _ => ⟨rfl, ?_⟩⟩
      refine ⟨lx, pg, hm, hh, h1, h2, ⟨n + 1, fun i => if i = n then j else tx i, by omega, rfl, rfl, fun i hi => ?_⟩, hs, hz⟩
      by_cases hin : i = n
      · subst hin
        refine ⟨by simp; omega, ?_, ?_⟩
        · simp [zz_up]
        · simp [zz_up]
      · have h5 := hj i (by omega)
        simp only [hin, if_false]
        refine ⟨h5.1, ?_, ?_⟩
        · simp [zz_up, hin, h5.2.1]
        · simp [zz_up, hin, h5.2.2]
    · have hge : n = 110 := by
        have : ¬ n < 110 := fun q => c ((nI_ltI (by omega) (by decide)).mpr q)
        omega
      exact hMs _ _ ⟨fun _ => ⟨rfl, hR0⟩, fun q => absurd hge q⟩
theorem zo_1_ok : zo_1 zx_R := by
  intro IC LC IM LM hR
  obtain ⟨lx, pg, hm, hh, h1, h2, ⟨n, tx, ht⟩, hs, hz⟩ := hR
  obtain ⟨hn, eC, eM, hj⟩ := ht
  intro v e1 I e2
  subst e1; subst e2
  intro I2 e3 v2 e4 I3 e5
  subst e3; subst e4; subst e5
  refine ⟨?_, lx, pg, hm, hh, h1, h2, ⟨0, tx, by omega, rfl, rfl, fun i hi => absurd hi (by omega)⟩, hs, hz⟩
  show IC 1 1 = IM 0 2
  rw [eC, eM]
theorem zo_25_ok : zo_25 zx_R := by
  intro IC LC IM LM p0 hR
  obtain ⟨lx, pg, hm, hh, h1, h2, ht, hs, hz1, hz2⟩ := hR
  intro v e1 L e2
  subst e1; subst e2
  intro I2 e3 v2 e4 L2 e5
  subst e3; subst e4; subst e5
  exact ⟨hz1, lx, pg, hm, hh, h1, h2, ht, hs, rfl, hz2⟩
theorem zo_21_ok : zo_21 zx_R := by
  intro IC LC IM LM hR
  obtain ⟨lx, pg, hm, hh, h1, h2, ht, ⟨n, sw, su, si, hs⟩, hz⟩ := hR
  obtain ⟨hn, eC, eM, hj⟩ := hs
  intro v e1 I e2
  subst e1; subst e2
  intro I2 e3 v2 e4 I3 e5
  subst e3; subst e4; subst e5
  refine ⟨?_, lx, pg, hm, hh, h1, h2, ht, ⟨0, sw, su, si, by omega, rfl, rfl, fun i hi => absurd hi (by omega)⟩, hz⟩
  show IC 33 3 = IM 0 24
  rw [eC, eM]
theorem zo_5_ok : zo_5 zx_R := by
  intro IC LC IM LM p0 hR
  have hR0 := zx_R0 hR
  obtain ⟨lx, pg, ⟨hl, hp, lC, lM, pC, pM⟩, -⟩ := hR
  have hu := hp.1
  refine zs_X6_hasUnit (n := pg 0) (by omega) pC.1 (fun c => ?_) (fun j hj e => ?_)
  · refine ⟨fun _ => ?_, fun q => absurd rfl q⟩
    intro I2 e2
    subst e2
    refine zs_X8_noUnit (n := pg 0) (by omega) pM.1 (fun _ => ⟨fun q => absurd q (by decide), fun _ => ⟨rfl, hR0⟩⟩) (fun j hj e => (zn_out (by omega) c hj e).elim)
  · subst e
    refine ⟨fun q => absurd q (by decide), fun _ => ⟨vp_in_nI (by omega) (by decide), ?_⟩⟩
    intro I2 e2
    subst e2
    refine zs_X8_noUnit (n := pg 0) (by omega) pM.1 (fun c => (zn_out (by omega) c hj rfl).elim) (fun j2 hj2 e => ?_)
    have e3 : j = j2 := zn_j (by omega) (by omega) e
    subst e3
    refine ⟨fun _ => ⟨?_, ?_⟩, fun q => absurd rfl q⟩
    · rw [show (19 : Int32) + nI j = nI (19 + j) from nI_add 19 j]; exact vp_in_nI (by omega) (by decide)
    · refine ⟨?_, hR0⟩
      rw [show (19 : Int32) + nI j = nI (19 + j) from nI_add 19 j, zn_cl (by omega), zn_cl (by omega)]
      have := pC.2.2.2.2 j hj
      have h3 := pM.2.2.2.2 j hj
      rw [Nat.zero_add] at h3
      show IC 22 j = IM 14 (19 + j)
      rw [h3]; exact this
