theorem zs_removeSign {t : Nat} {x : Int32} {I : zz_I} {L : zz_L} {lx : Nat → Nat → Nat} {pg : Nat → Nat} {P : Int32 → zz_I → zz_L → Prop} (hl : zx_lexOK lx) (hp : zx_pgOK lx pg) (lC : zx_lexC 14 I lx) (pC : zx_pgC t I lx pg) (f1 : (x < 0 ∨ nI (pg 0) ≤ x) → P (-1) I L) (f2 : ∀ u, u < pg 0 → x = nI u → 7 ≤ pg (19 + u) → P (-3) I L) (f3 : ∀ u, u < pg 0 → x = nI u → pg (19 + u) < 7 → ∀ J : zz_I, (∀ k j, k ≠ t + 1 → J k j = I k j) → zx_pgC t J lx (zx_gap pg u (lx 1 (pg (19 + u)))) → P (nI (pg (19 + u))) J L) : zp_X6_removeSign t x P I L := by
  have hu24 := hp.1
  unfold zp_X6_removeSign
  refine zs_X6_hasUnit (n := pg 0) (by omega) pC.1 (fun c => ⟨fun q => absurd rfl q, fun _ => f1 c⟩) (fun u hu eu => ⟨fun _ => ?_, fun q => absurd q (by decide)⟩)
  have h8 := hp.2.2.2.2.1 u hu
  have f2' := f2 u hu eu
  have f3' := f3 u hu eu
  subst eu
  rw [zn_cl (by omega), pC.2.2.2.2 u hu]
  refine ⟨vp_in_nI (by omega) (by decide), ?_⟩
  rintro v16 rfl
  refine zs_isSign (fun c => ⟨fun q => absurd rfl q, fun _ => f2' ?_⟩) (fun s hs es => ⟨fun _ => ?_, fun q => absurd q (by decide)⟩)
  · rcases c with c | c
    · exact absurd c (nI_pos (by omega))
    · exact (nI_leI (by decide) (by omega)).mp c
  · have e1 : pg (19 + u) = s := zn_j (by omega) (by omega) es
    have hs7 : pg (19 + u) < 7 := by omega
    have hw := zx_wd_bd hl hs7
    refine zs_widthOf (lx := lx) lC.2.1 hs7 ?_
    exact zs_putGap hl hp pC hw.2 (hp.2.2.2.2.2 u hu hs7).1 (fun J hf hJ => f3' hs7 J hf hJ)
theorem zs_insertSign {t : Nat} {x y : Int32} {I : zz_I} {L : zz_L} {lx : Nat → Nat → Nat} {pg : Nat → Nat} {P : Int32 → zz_I → zz_L → Prop} (hl : zx_lexOK lx) (hp : zx_pgOK lx pg) (lC : zx_lexC 14 I lx) (pC : zx_pgC t I lx pg) (f1 : (x < 0 ∨ nI (pg 0) ≤ x) → P (-1) I L) (f2 : ∀ u, u < pg 0 → x = nI u → (y < 0 ∨ nI 7 ≤ y) → P (-2) I L) (f3 : ∀ u s, u < pg 0 → x = nI u → s < 7 → y = nI s → zx_free pg u (lx 1 s) = false → P (-3) I L) (f4 : ∀ u s, u < pg 0 → x = nI u → s < 7 → y = nI s → zx_free pg u (lx 1 s) = true → ∀ J : zz_I, (∀ k j, k ≠ t + 1 → J k j = I k j) → zx_pgC t J lx (zx_put pg u s (lx 1 s)) → P (nI (zx_gaps (zx_put pg u s (lx 1 s)))) J L) : zp_X6_insertSign t x y P I L := by
  have hu24 := hp.1
  unfold zp_X6_insertSign
  refine zs_X6_hasUnit (n := pg 0) (by omega) pC.1 (fun c => ⟨fun q => absurd rfl q, fun _ => f1 c⟩) (fun u hu eu => ⟨fun _ => ?_, fun q => absurd q (by decide)⟩)
  refine zs_isSign (fun c => ⟨fun q => absurd rfl q, fun _ => f2 u hu eu c⟩) (fun s hs es => ⟨fun _ => ?_, fun q => absurd q (by decide)⟩)
  have f3' := f3 u s hu eu hs es
  have f4' := f4 u s hu eu hs es
  subst eu; subst es
  have hw := zx_wd_bd hl hs
  refine zs_widthOf (lx := lx) lC.2.1 hs ?_
  refine zs_isFree hp pC (by omega) hw.2 ?_
  refine zb_rb (fun hb => ?_) (fun hb => f3' hb)
  obtain ⟨ok, -, -, hfit⟩ := zx_put_OK hl hp hs hb
  refine zs_putSign hl hp pC hw.2 hfit (fun J hf hJ => ?_)
  exact zs_countGaps ok hJ (f4' hb J hf hJ)
theorem zo_7_ok : zo_7 zx_R := by
  intro IC LC IM LM p0 hR
  have hR0 := zx_R0 hR
  obtain ⟨lx, pg, hm, ⟨d, nx, pgs, hh⟩, h1, h2, ht, hs, hz⟩ := hR
  have hm' := hm
  obtain ⟨hl, hp, lC, lM, pC, pM⟩ := hm'
  have hu24 := hp.1
  have hh' := hh
  obtain ⟨hd, hnx, e3, e4, e21, epg, -⟩ := hh'
  have key : ∀ (r : Int32) (IC2 : zz_I), ((p0 < 0 ∨ nI (pg 0) ≤ p0) → r = -1 ∧ zx_R IC2 LC (zz_up IM 0 0 0) LM) → (∀ u, u < pg 0 → p0 = nI u → 7 ≤ pg (19 + u) → r = -3 ∧ zx_R IC2 LC (zz_up IM 0 0 0) LM) → (∀ u, u < pg 0 → p0 = nI u → pg (19 + u) < 7 → ∀ J K : zz_I, zx_noted (zz_up IM 0 0 0) J d → (∀ k j, k ≠ 14 → K k j = J k j) → zx_pgM 14 0 K lx (zx_gap pg u (lx 1 (pg (19 + u)))) → r = nI (pg (19 + u)) ∧ zx_R IC2 LC K LM) → zp_X8_wear p0 (fun r2 IM2 LM2 => r = r2 ∧ zx_R IC2 LC IM2 LM2) IM LM := by
    intro r IC2 g1 g2 g3 I2 e2
    subst e2
    refine zs_X8_noUnit (n := pg 0) (by omega) pM.1 (fun c => ⟨fun q => absurd q (by decide), fun _ => g1 c⟩) (fun u hu eu => ⟨fun _ => ?_, fun q => absurd rfl q⟩)
    have g2' := g2 u hu eu
    have g3' := g3 u hu eu
    subst eu
    have es : zz_up IM 0 0 0 14 (19 + u) = nI (pg (19 + u)) := (zx_pgM_at pM).2.2 u hu
    have h8 := hp.2.2.2.2.1 u hu
    rw [show (19 : Int32) + nI u = nI (19 + u) from nI_add 19 u, zn_cl (by omega), es]
    refine ⟨vp_in_nI (by omega) (by decide), pk_le (pg (19 + u)) 6 (fun c => ?_) (fun c => g2' (by omega))⟩
    refine zs_note (d := d) hd e21 (fun J hJ => ?_)
    have pJ := zx_noted_pgM hJ pM
    have eJ := (zx_pgM_at pJ).2.2 u hu
    have lJ : zx_lexM 5 2 J lx := by
      have m : ∀ k, k ≠ 16 → k ≠ 0 → J k = IM k := fun k a b => funext fun j => by rw [hJ.1 k j a (by omega)]; simp [zz_up, b]
      have m0 : J 0 5 = IM 0 5 := by rw [hJ.1 0 5 (by omega) (by omega)]; rfl
      unfold zx_lexM; rw [m0, m 2 (by omega) (by omega), m (2 + 1) (by omega) (by omega), m (2 + 2) (by omega) (by omega), m (2 + 3) (by omega) (by omega), m (2 + 4) (by omega) (by omega)]; exact lM
    rw [eJ]
    refine ⟨vp_in_nI (by omega) (by decide), ?_⟩
    rintro v45 rfl
    exact zs_wearOn hl hp lJ (by omega) pJ hu (by omega) (fun K hf hK => g3' (by omega) J K hJ hf hK)
  unfold zp_X7_wear
  refine zs_removeSign hl hp lC pC (fun c => ⟨fun _ => key _ _ (fun _ => ⟨rfl, hR0⟩) (fun u hu eu _ => (zn_out (by omega) c hu eu).elim) (fun u hu eu => (zn_out (by omega) c hu eu).elim), fun q => absurd (by decide) q⟩) (fun u hu eu h7 => ⟨fun _ => key _ _ (fun c => (zn_out (by omega) c hu eu).elim) (fun _ _ _ _ => ⟨rfl, hR0⟩) (fun u2 hu2 eu2 hlt => ?_), fun q => absurd (by decide) q⟩) (fun u hu eu h7 J hf hJ => ⟨fun q => absurd q (nI_pos (by omega)), fun _ => ?_⟩)
  · have := zn_j (by omega) (by omega) (eu.symm.trans eu2)
    subst this; omega
  · have f29 : ∀ j, J 29 j = IC 29 j := fun j => hf 29 j (by decide)
    refine zs_record (e := 0) (p := u) (v := pg (19 + u)) hd hnx ((f29 3).trans e3) ((f29 4).trans e4) rfl eu rfl ?_
    refine key _ _ (fun c => (zn_out (by omega) c hu eu).elim) (fun u2 hu2 eu2 h72 => ?_) (fun u2 hu2 eu2 hlt J2 K2 hJ2 hK2 hpK => ⟨?_, ?_⟩)
    · have := zn_j (by omega) (by omega) (eu.symm.trans eu2)
      subst this; omega
    · have := zn_j (by omega) (by omega) (eu.symm.trans eu2)
      subst this; rfl
    · have e5 := zn_j (by omega) (by omega) (eu.symm.trans eu2)
      subst e5
      obtain ⟨ok2, h0, hinv⟩ := zx_gap_OK hl hp hu h7
      refine zx_R_act (J := J2) hm hh h1 h2 ht hs hz ok2 h0 (Or.inl ⟨rfl, h7, (hp.2.2.2.2.2 u hu h7).1⟩) hinv (fun k j hk => hf k j (by omega)) hJ hJ2 hK2 hpK
theorem zo_8_ok : zo_8 zx_R := by
  intro IC LC IM LM p0 p1 hR
  have hR0 := zx_R0 hR
  obtain ⟨lx, pg, hm, ⟨d, nx, pgs, hh⟩, h1, h2, ht, hs, hz⟩ := hR
  have hm' := hm
  obtain ⟨hl, hp, lC, lM, pC, pM⟩ := hm'
  have hu24 := hp.1
  have hh' := hh
  obtain ⟨hd, hnx, e3, e4, e21, epg, -⟩ := hh'
  have key : ∀ (r : Int32) (IC2 : zz_I), ((p0 < 0 ∨ nI (pg 0) ≤ p0) → r = -1 ∧ zx_R IC2 LC (zz_up IM 0 0 0) LM) → (∀ u, u < pg 0 → p0 = nI u → (p1 < 0 ∨ nI 7 ≤ p1) → r = -2 ∧ zx_R IC2 LC (zz_up IM 0 0 0) LM) → (∀ u s, u < pg 0 → p0 = nI u → s < 7 → p1 = nI s → zx_free pg u (lx 1 s) = false → r = -3 ∧ zx_R IC2 LC (zz_up IM 0 0 0) LM) → (∀ u s, u < pg 0 → p0 = nI u → s < 7 → p1 = nI s → zx_free pg u (lx 1 s) = true → ∀ J K : zz_I, zx_noted (zz_up IM 0 0 0) J d → (∀ k j, k ≠ 14 → K k j = J k j) → zx_pgM 14 0 K lx (zx_put pg u s (lx 1 s)) → r = nI (zx_gaps (zx_put pg u s (lx 1 s))) ∧ zx_R IC2 LC K LM) → zp_X8_carve p0 p1 (fun r2 IM2 LM2 => r = r2 ∧ zx_R IC2 LC IM2 LM2) IM LM := by
    intro r IC2 g1 g2 g3 g4 I2 e2
    subst e2
    refine zs_X8_noUnit (n := pg 0) (by omega) pM.1 (fun c => ⟨fun q => absurd q (by decide), fun _ => g1 c⟩) (fun u hu eu => ⟨fun _ => ?_, fun q => absurd rfl q⟩)
    refine zs_inR (b := 6) (by decide) rfl (fun c => ⟨fun q => absurd rfl q, fun _ => g2 u hu eu c⟩) (fun s hs es => ⟨fun _ => ?_, fun q => absurd q (by decide)⟩)
    have g3' := g3 u s hu eu (by omega) es
    have g4' := g4 u s hu eu (by omega) es
    subst eu; subst es
    refine zs_isInGaps (lx := lx) (pg := pg) hl hp lM pM (by omega) (by omega) ?_
    refine zb_rb (fun hb => ?_) (fun hb => g3' hb)
    obtain ⟨ok, -, -, hfit⟩ := zx_put_OK hl hp (by omega) hb
    refine zs_note (d := d) hd e21 (fun J hJ => ?_)
    have pJ := zx_noted_pgM hJ pM
    have lJ : zx_lexM 5 2 J lx := by
      have m : ∀ k, k ≠ 16 → k ≠ 0 → J k = IM k := fun k a b => funext fun j => by rw [hJ.1 k j a (by omega)]; simp [zz_up, b]
      have m0 : J 0 5 = IM 0 5 := by rw [hJ.1 0 5 (by omega) (by omega)]; rfl
      unfold zx_lexM; rw [m0, m 2 (by omega) (by omega), m (2 + 1) (by omega) (by omega), m (2 + 2) (by omega) (by omega), m (2 + 3) (by omega) (by omega), m (2 + 4) (by omega) (by omega)]; exact lM
    refine zs_carveOn hl hp lJ (by omega) pJ (by omega) hfit (fun K hf hK => ?_)
    exact zs_gaps ok hK (g4' hb J K hJ hf hK)
  unfold zp_X7_carve
  refine zs_insertSign hl hp lC pC (fun c => ⟨fun _ => key _ _ (fun _ => ⟨rfl, hR0⟩) (fun u hu eu _ => (zn_out (by omega) c hu eu).elim) (fun u s hu eu => (zn_out (by omega) c hu eu).elim) (fun u s hu eu => (zn_out (by omega) c hu eu).elim), fun q => absurd (by decide) q⟩) (fun u hu eu c2 => ⟨fun _ => key _ _ (fun c => (zn_out (by omega) c hu eu).elim) (fun _ _ _ _ => ⟨rfl, hR0⟩) (fun u2 s hu2 eu2 hs es => (zn_out (by decide) c2 hs es).elim) (fun u2 s hu2 eu2 hs es => (zn_out (by decide) c2 hs es).elim), fun q => absurd (by decide) q⟩) (fun u s hu eu hs es hfr => ⟨fun _ => key _ _ (fun c => (zn_out (by omega) c hu eu).elim) (fun u2 hu2 eu2 c2 => (zn_out (by decide) c2 hs es).elim) (fun _ _ _ _ _ _ _ => ⟨rfl, hR0⟩) (fun u2 s2 hu2 eu2 hs2 es2 hfr2 => ?_), fun q => absurd (by decide) q⟩) (fun u s hu eu hs7 es hfr J hf hJ => ⟨fun q => absurd q (nI_pos (Nat.lt_of_le_of_lt zx_gaps_le (by rw [zx_put_lo (by omega)]; omega))), fun _ => ?_⟩)
  · have q1 := zn_j (by omega) (by omega) (eu.symm.trans eu2)
    have q2 := zn_j (by omega) (by omega) (es.symm.trans es2)
    subst q1; subst q2
    rw [hfr] at hfr2; contradiction
  · have f29 : ∀ j, J 29 j = IC 29 j := fun j => hf 29 j (by decide)
    refine zs_record (e := 1) (p := u) (v := s) hd hnx ((f29 3).trans e3) ((f29 4).trans e4) rfl eu es ?_
    refine key _ _ (fun c => (zn_out (by omega) c hu eu).elim) (fun u2 hu2 eu2 c2 => (zn_out (by decide) c2 hs7 es).elim) (fun u2 s2 hu2 eu2 hs2 es2 hfr2 => ?_) (fun u2 s2 hu2 eu2 hs2 es2 hfr2 J2 K2 hJ2 hK2 hpK => ?_)
    · have q1 := zn_j (by omega) (by omega) (eu.symm.trans eu2)
      have q2 := zn_j (by omega) (by omega) (es.symm.trans es2)
      subst q1; subst q2
      rw [hfr] at hfr2; contradiction
    · have q1 := zn_j (by omega) (by omega) (eu.symm.trans eu2)
      have q2 := zn_j (by omega) (by omega) (es.symm.trans es2)
      subst q1; subst q2
      obtain ⟨ok2, h0, hinv, hfit⟩ := zx_put_OK hl hp hs7 hfr
      exact ⟨rfl, zx_R_act (J := J2) hm hh h1 h2 ht hs hz ok2 h0 (Or.inr (Or.inl ⟨rfl, hs7, hfit⟩)) hinv (fun k j hk => hf k j (by omega)) hJ hJ2 hK2 hpK⟩
