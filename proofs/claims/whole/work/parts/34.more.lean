theorem zx_ix3 {a b : Nat} : nI a * (3 : Int32) + nI b = nI (a * 3 + b) := by
  rw [show nI a * (3 : Int32) = nI (a * 3) from pk_mul a 3, nI_add]
theorem zx_ix3' {a b : Nat} : (2 : Int32) + (3 : Int32) * nI a + nI b = nI (2 + (3 * a + b)) := by
  rw [show (3 : Int32) * nI a = nI (3 * a) from pk_mul 3 a, show (2 : Int32) + nI (3 * a) = nI (2 + 3 * a) from nI_add 2 _, nI_add]
  congr 1; omega
theorem zo_6_ok : zo_6 zx_R := by
  intro IC LC IM LM p0 p1 hR
  have hR0 := zx_R0 hR
  obtain ⟨lx, pg, ⟨hl, hp, lC, lM, pC, pM⟩, -⟩ := hR
  have key : ∀ r : Int32, ((p0 < 0 ∨ nI 3 ≤ p0) → r = -2) → ((p1 < 0 ∨ nI 3 ≤ p1) → r = -2) → (∀ a b, a < 3 → b < 3 → p0 = nI a → p1 = nI b → r = nI (pg (2 + (3 * a + b)))) → zp_X8_rule p0 p1 (fun r2 IM2 LM2 => r = r2 ∧ zx_R IC LC IM2 LM2) IM LM := by
    intro r hb1 hb2 hg I2 e2
    subst e2
    refine zs_inR (b := 2) (by decide) rfl (fun c => ⟨fun _ => ⟨hb1 c, hR0⟩, fun q => absurd rfl q⟩) (fun a ha ea => ⟨fun q => absurd q (by decide), fun _ => ?_⟩)
    refine zs_inR (b := 2) (by decide) rfl (fun c => ⟨fun _ => ⟨hb2 c, hR0⟩, fun q => absurd rfl q⟩) (fun b hb eb => ⟨fun q => absurd q (by decide), fun _ => ?_⟩)
    rw [ea, eb, zx_ix3', zn_cl (by omega)]
    refine ⟨vp_in_nI (by omega) (by decide), ?_, hR0⟩
    rw [hg a b (by omega) (by omega) ea eb]
    exact ((zx_pgM_at pM).1 (3 * a + b) (by omega)).symm
  unfold zp_X7_rule
  refine zs_isKind (fun c => ⟨fun _ => key _ (fun _ => rfl) (fun _ => rfl) (fun a b ha hb ea eb => (zn_out (by decide) c ha ea).elim), fun q => absurd rfl q⟩) (fun a ha ea => ⟨fun q => absurd q (by decide), fun _ => ?_⟩)
  refine zs_isKind (fun c => ⟨fun _ => key _ (fun _ => rfl) (fun _ => rfl) (fun a b ha hb ea eb => (zn_out (by decide) c hb eb).elim), fun q => absurd rfl q⟩) (fun b hb eb => ⟨fun q => absurd q (by decide), fun _ => ?_⟩)
  have e9 : IC 23 (3 * a + b) = nI (pg (2 + (3 * a + b))) := pC.2.2.1 (3 * a + b) (by omega)
  subst ea; subst eb
  rw [zx_ix3, zn_cl (by omega), show a * 3 + b = 3 * a + b by omega]
  refine ⟨vp_in_nI (by omega) (by decide), ?_⟩
  refine key _ (fun c => (zn_out (by decide) c ha rfl).elim) (fun c => (zn_out (by decide) c hb rfl).elim) (fun a2 b2 h1 h2 e1 e2 => ?_)
  have := zn_j (by omega) (by omega) e1
  have := zn_j (by omega) (by omega) e2
  subst_vars
  exact e9
theorem zo_10_ok : zo_10 zx_R := by
  intro IC LC IM LM p0 p1 p2 hR
  have hR0 := zx_R0 hR
  obtain ⟨lx, pg, hm, ⟨d, nx, pgs, hh⟩, h1, h2, ht, hs, hz⟩ := hR
  have hm' := hm
  obtain ⟨hl, hp, lC, lM, pC, pM⟩ := hm'
  have hh' := hh
  obtain ⟨hd, hnx, e3, e4, e21, epg, -⟩ := hh'
  have key : ∀ (r : Int32) (IC2 : zz_I), (((p0 < 0 ∨ nI 3 ≤ p0) ∨ (p1 < 0 ∨ nI 3 ≤ p1) ∨ (p2 < 0 ∨ nI 3 ≤ p2)) → r = -2 ∧ zx_R IC2 LC (zz_up IM 0 0 0) LM) → (∀ a b v, a < 3 → b < 3 → v < 3 → p0 = nI a → p1 = nI b → p2 = nI v → ∀ J, zx_noted (zz_up IM 0 0 0) J d → r = nI (pg (2 + (3 * a + b))) ∧ zx_R IC2 LC (zz_up J 14 (2 + (3 * a + b)) (nI v)) LM) → zp_X8_setRule p0 p1 p2 (fun r2 IM2 LM2 => r = r2 ∧ zx_R IC2 LC IM2 LM2) IM LM := by
    intro r IC2 hbad hgood I2 e2
    subst e2
    refine zs_inR (b := 2) (by decide) rfl (fun c => ⟨fun _ => hbad (Or.inl c), fun q => absurd rfl q⟩) (fun a ha ea => ⟨fun q => absurd q (by decide), fun _ => ?_⟩)
    refine zs_inR (b := 2) (by decide) rfl (fun c => ⟨fun _ => hbad (Or.inr (Or.inl c)), fun q => absurd rfl q⟩) (fun b hb eb => ⟨fun q => absurd q (by decide), fun _ => ?_⟩)
    refine zs_inR (b := 2) (by decide) rfl (fun c => ⟨fun q => absurd rfl q, fun _ => hbad (Or.inr (Or.inr c))⟩) (fun v hv ev => ⟨fun _ => ?_, fun q => absurd q (by decide)⟩)
    refine zs_note (d := d) hd e21 (fun J hJ => ?_)
    rw [ea, eb, ev, zx_ix3', zn_cl (by omega)]
    refine ⟨vp_in_nI (by omega) (by decide), ?_⟩
    rintro v60 rfl
    refine ⟨vp_in_nI (by omega) (by decide), ?_⟩
    rintro I74 rfl
    have pJ := (zx_pgM_at (zx_noted_pgM hJ pM)).1 (3 * a + b) (by omega)
    rw [pJ]
    exact hgood a b v (by omega) (by omega) (by omega) ea eb ev J hJ
  have bad : ((p0 < 0 ∨ nI 3 ≤ p0) ∨ (p1 < 0 ∨ nI 3 ≤ p1) ∨ (p2 < 0 ∨ nI 3 ≤ p2)) → (((-2 : Int32) < 0 → zp_X8_setRule p0 p1 p2 (fun r2 IM2 LM2 => (-2 : Int32) = r2 ∧ zx_R IC LC IM2 LM2) IM LM) ∧ (¬ (-2 : Int32) < 0 → zp_X1_record (3 : Int32) ((p0 * (3 : Int32)) + p1) (-2) (fun I29 L29 => zp_X8_setRule p0 p1 p2 (fun r2 IM2 LM2 => (-2 : Int32) = r2 ∧ zx_R I29 L29 IM2 LM2) IM LM) IC LC)) := by
    intro c
    refine ⟨fun _ => key _ _ (fun _ => ⟨rfl, hR0⟩) (fun a b v ha hb hv ea eb ev J hJ => ?_), fun q => absurd (by decide) q⟩
    rcases c with c | c | c
    · exact (zn_out (by decide) c ha ea).elim
    · exact (zn_out (by decide) c hb eb).elim
    · exact (zn_out (by decide) c hv ev).elim
  unfold zp_X7_setRule zp_X6_changeRule
  refine zs_isKind (fun c => ⟨fun _ => bad (Or.inl c), fun q => absurd rfl q⟩) (fun a ha ea => ⟨fun q => absurd q (by decide), fun _ => ?_⟩)
  refine zs_isKind (fun c => ⟨fun _ => bad (Or.inr (Or.inl c)), fun q => absurd rfl q⟩) (fun b hb eb => ⟨fun q => absurd q (by decide), fun _ => ?_⟩)
  rcases zn_ix p2 (n := 3) (by decide) with hc | ⟨v, hv, ev⟩
  · refine ⟨fun _ => bad (Or.inr (Or.inr hc)), fun c => ⟨fun c2 => ?_, fun _ => bad (Or.inr (Or.inr hc))⟩⟩
    rcases hc with hc | hc
    · exact absurd hc c
    · exact absurd (Int32.le_trans hc c2) (by decide)
  · refine ⟨fun c => absurd c (by rw [ev]; exact nI_pos (by omega)), fun _ => ⟨fun _ => ?_, fun c => absurd (by rw [ev]; exact nI_le (b := 2) (by omega) (by decide)) c⟩⟩
    subst ea; subst eb; subst ev
    have hru := hp.2.2.1 (3 * a + b) (by omega)
    have e9 : IC 23 (3 * a + b) = nI (pg (2 + (3 * a + b))) := pC.2.2.1 (3 * a + b) (by omega)
    rw [zx_ix3, zn_cl (by omega), show a * 3 + b = 3 * a + b by omega]
    refine ⟨vp_in_nI (by omega) (by decide), ?_⟩
    rintro v36 rfl
    refine ⟨vp_in_nI (by omega) (by decide), ?_⟩
    rintro I48 rfl
    have e9' : IC (21 + 2) (3 * a + b) = nI (pg (2 + (3 * a + b))) := e9
    rw [e9']
    refine ⟨fun q => absurd q (nI_pos (by omega)), fun _ => ?_⟩
    refine zs_record (e := 3) (p := 3 * a + b) (v := pg (2 + (3 * a + b))) hd hnx e3 e4 rfl rfl rfl ?_
    refine key _ _ (fun c => ?_) (fun a2 b2 v2 h12 h22 h32 e1 e2 e5 J hJ => ?_)
    · rcases c with c | c | c
      · exact (zn_out (by decide) c ha rfl).elim
      · exact (zn_out (by decide) c hb rfl).elim
      · exact (zn_out (by decide) c hv rfl).elim
    · have q1 := zn_j (by omega) (by omega) e1
      have q2 := zn_j (by omega) (by omega) e2
      have q3 := zn_j (by omega) (by omega) e5
      subst q1; subst q2; subst q3
      refine ⟨rfl, ?_⟩
      obtain ⟨ok2, h0⟩ := zx_set_OK (k := 2 + (3 * a + b)) (v := v) hp (Or.inr (Or.inl ⟨by omega, by omega, by omega⟩))
      refine zx_R_act (pg2 := zx_set pg (2 + (3 * a + b)) v) (J := J) hm hh h1 h2 ht hs hz ok2 h0 (Or.inr (Or.inr (Or.inr (Or.inl ⟨rfl, by omega, hru⟩)))) ?_ (fun k j hk => ?_) ?_ hJ (fun k j hk => ?_) (zx_set_M (zx_noted_pgM hJ pM) (by omega) (by omega))
      · show pg = zx_set (zx_set pg (2 + (3 * a + b)) v) (2 + (3 * a + b)) (pg (2 + (3 * a + b)))
        exact zx_set_back.symm
      · have : ¬ (k = 21 + 2) := by omega
        simp [zz_up, this]
      · obtain ⟨ca1, cb1, cc1, cd1, ce1⟩ := pC
        refine ⟨by rw [h0]; exact ca1, ?_, fun j hj => ?_, fun j hj => ?_, fun j hj => ?_⟩
        · rw [zx_set_ne (by omega)]; exact cb1
        · by_cases q : j = 3 * a + b
          · subst q; rw [zx_set_at]; simp [zz_up]
          · rw [zx_set_ne (by omega)]
            have := cc1 j hj
            simp only [zz_up]; rw [if_neg (by omega)]; exact this
        · rw [zx_set_ne (by omega)]; exact cd1 j hj
        · rw [zx_set_ne (by omega)]; exact ce1 j (by rw [h0] at hj; exact hj)
      · simp [zz_up, hk]
/-! observations -/
theorem zx_nar {k : Nat} (h : k < 2) : vp_nar .boolean (nI k) = nI k := by
  match k, h with
  | 0, _ => decide
  | 1, _ => decide
  | k + 2, h => exact absurd h (by omega)
theorem zo_20_ok : zo_20 zx_R := by
  intro IC LC IM LM p0 p1 p2 hR
  have hR0 := zx_R0 hR
  obtain ⟨lx, pg, hm, hh, h1, h2, ht, ⟨n, sw, su, si, hs⟩, hz⟩ := hR
  have hm' := hm
  obtain ⟨hl, hp, lC, lM, pC, pM⟩ := hm'
  obtain ⟨hn, eC, eM, hj⟩ := hs
  have hw8 := hl.1
  have hu24 := hp.1
  have key : ∀ (r : Int32) (IC2 : zz_I), (((p0 < 0 ∨ nI (lx 0 0) ≤ p0) ∨ (p1 < 0 ∨ nI (pg 0) ≤ p1)) → r = -1 ∧ zx_R IC2 LC (zz_up IM 0 0 0) LM) → (∀ w u, w < lx 0 0 → u < pg 0 → p0 = nI w → p1 = nI u → ((p2 < 0 ∨ nI 2 ≤ p2) → r = -2 ∧ zx_R IC2 LC (zz_up IM 0 0 0) LM) ∧ (∀ v, v < 2 → p2 = nI v → (n = 6 → r = -4 ∧ zx_R IC2 LC (zz_up IM 0 0 0) LM) ∧ (n ≠ 6 → r = nI (n + 1) ∧ zx_R IC2 LC (zz_up (zz_up (zz_up (zz_up (zz_up IM 0 0 0) 19 n (nI w)) 20 n (nI u)) 21 n (nI v)) 0 24 (nI (n + 1))) LM))) → zp_X8_see p0 p1 p2 (fun r2 IM2 LM2 => r = r2 ∧ zx_R IC2 LC IM2 LM2) IM LM := by
    intro r IC2 hbad hgood I2 e2
    subst e2
    refine zs_X8_noWord (n := lx 0 0) (by omega) lM.1 (fun c => ⟨fun _ => hbad (Or.inl c), fun q => absurd q (by decide)⟩) (fun w hw ew => ⟨fun q => absurd rfl q, fun _ => ?_⟩)
    refine zs_X8_noUnit (n := pg 0) (by omega) pM.1 (fun c => ⟨fun q => absurd q (by decide), fun _ => hbad (Or.inr c)⟩) (fun u hu eu => ⟨fun _ => ?_, fun q => absurd rfl q⟩)
    obtain ⟨g1, g2⟩ := hgood w u hw hu ew eu
    refine zs_inR (b := 1) (by decide) rfl (fun c => ⟨fun q => absurd rfl q, fun _ => g1 c⟩) (fun v hv ev => ⟨fun _ => ?_, fun q => absurd q (by decide)⟩)
    obtain ⟨g3, g4⟩ := g2 v (by omega) ev
    subst ew; subst eu; subst ev
    have m1 : zz_up IM 0 0 0 0 24 = nI n := eM
    rw [m1]
    refine ⟨fun c => ?_, fun c => g3 (zn_j (by omega) (by decide) c)⟩
    have hn6 : n ≠ 6 := fun q => c (by rw [q]; rfl)
    rw [zn_cl (by omega)]
    refine ⟨vp_in_nI (by omega) (by decide), ?_⟩
    rintro I57 rfl
    have m2 : zz_up (zz_up IM 0 0 0) 19 n (nI w) 0 24 = nI n := eM
    rw [m2, zn_cl (by omega)]
    refine ⟨vp_in_nI (by omega) (by decide), ?_⟩
    rintro I67 rfl
    have m3 : zz_up (zz_up (zz_up IM 0 0 0) 19 n (nI w)) 20 n (nI u) 0 24 = nI n := eM
    rw [m3, zn_cl (by omega)]
    refine ⟨vp_in_nI (by omega) (by decide), ?_⟩
    rintro I77 rfl I85 e85
    have m4 : zz_up (zz_up (zz_up (zz_up IM 0 0 0) 19 n (nI w)) 20 n (nI u)) 21 n (nI v) 0 24 = nI n := eM
    rw [m4, show nI n + (1 : Int32) = nI (n + 1) from nI_1 n] at e85
    subst e85
    exact g4 hn6
  unfold zp_X7_see
  refine zs_X2_hasWord (n := lx 0 0) (by omega) lC.1 (fun c => ⟨fun _ => key _ _ (fun _ => ⟨rfl, hR0⟩) (fun w u hw hu ew eu => (zn_out (by omega) c hw ew).elim), fun q => absurd rfl q⟩) (fun w hw ew => ⟨fun q => absurd q (by decide), fun _ => ?_⟩)
  refine zs_X6_hasUnit (n := pg 0) (by omega) pC.1 (fun c => ⟨fun q => absurd rfl q, fun _ => key _ _ (fun _ => ⟨rfl, hR0⟩) (fun w u hw hu ew eu => (zn_out (by omega) c hu eu).elim)⟩) (fun u hu eu => ⟨fun _ => ?_, fun q => absurd q (by decide)⟩)
  have hnb : ¬ ((p0 < 0 ∨ nI (lx 0 0) ≤ p0) ∨ (p1 < 0 ∨ nI (pg 0) ≤ p1)) := by
    intro q
    rcases q with q | q
    · exact zn_out (by omega) q hw ew
    · exact zn_out (by omega) q hu eu
  have go : ∀ v, v < 2 → p2 = nI v → zp_X7_see_36 (fun r IC2 LC2 => zp_X8_see p0 p1 p2 (fun r2 IM2 LM2 => r = r2 ∧ zx_R IC2 LC2 IM2 LM2) IM LM) p0 p1 p2 IC LC := by
    intro v hv ev
    have hnv : ¬ (p2 < 0 ∨ nI 2 ≤ p2) := fun q => zn_out (by decide) q hv ev
    unfold zp_X7_see_36
    rw [eC]
    refine ⟨fun c => ?_, fun c => ?_⟩
    · have hlt : n < 6 := (nI_ltI (by omega) (by decide)).mp c
      have goal : ∀ s0 : Int32, s0 = nI v → zp_X7_see_67 (fun r IC2 LC2 => zp_X8_see p0 p1 p2 (fun r2 IM2 LM2 => r = r2 ∧ zx_R IC2 LC2 IM2 LM2) IM LM) s0 p1 p0 IC LC := by
        intro s0 es
        unfold zp_X7_see_67 zp_X5_append
        rw [eC]
        refine ⟨fun q => absurd q (nI_pos (by omega)), fun _ => ⟨fun q => absurd ((nI_leI (a := 6) (by decide) (by omega)).mp q) (by omega), fun _ => ?_⟩⟩
        rw [zn_cl (by omega)]
        refine ⟨vp_in_nI (by omega) (by decide), ?_⟩
        rintro I25 rfl
        have m2 : zz_up IC 34 n p0 33 3 = nI n := eC
        rw [m2, zn_cl (by omega)]
        refine ⟨vp_in_nI (by omega) (by decide), ?_⟩
        rintro I35 rfl
        have m3 : zz_up (zz_up IC 34 n p0) 35 n p1 33 3 = nI n := eC
        rw [m3, zn_cl (by omega)]
        refine ⟨vp_in_nI (by omega) (by decide), ?_⟩
        rw [es, zx_nar hv]
        rintro I45 rfl I53 e53
        have m4 : zz_up (zz_up (zz_up IC 34 n p0) 35 n p1) 36 n (nI v) 33 3 = nI n := eC
        rw [m4, show nI n + (1 : Int32) = nI (n + 1) from nI_1 n] at e53
        subst e53
        have m5 : zz_up (zz_up (zz_up (zz_up IC 34 n p0) 35 n p1) 36 n (nI v)) 33 3 (nI (n + 1)) 33 3 = nI (n + 1) := rfl
        rw [m5]
        refine key _ _ (fun q => absurd q hnb) (fun w2 u2 hw2 hu2 ew2 eu2 => ⟨fun q => absurd q hnv, fun v2 hv2 ev2 => ⟨fun q => absurd q (by omega), fun _ => ⟨rfl, ?_⟩⟩⟩)
        have := zn_j (by omega) (by omega) (ew.symm.trans ew2)
        have := zn_j (by omega) (by omega) (eu.symm.trans eu2)
        have := zn_j (by omega) (by omega) (ev.symm.trans ev2)
        subst_vars
        refine ⟨lx, pg, hm, hh, h1, h2, ht, ⟨n + 1, fun i => if i = n then w2 else sw i, fun i => if i = n then u2 else su i, fun i => if i = n then v2 else si i, by omega, rfl, rfl, fun i hi => ?_⟩, hz⟩
        by_cases hin : i = n
        · subst hin
          simp only [if_true]
          refine ⟨by omega, by omega, by omega, ?_, ?_, ?_, ?_, ?_, ?_⟩ <;> simp [zz_up]
        · have h5 := hj i (by omega)
          simp only [hin, if_false]
          obtain ⟨a1, a2, a3, a4, a5, a6, a7, a8, a9⟩ := h5
          refine ⟨a1, a2, a3, ?_, ?_, ?_, ?_, ?_, ?_⟩ <;> simp [zz_up, hin, a4, a5, a6, a7, a8, a9]
      rcases (show v = 0 ∨ v = 1 by omega) with rfl | rfl
      · exact ⟨fun _ => goal 0 rfl, fun q => absurd q (by rw [ev]; decide)⟩
      · exact ⟨fun q => absurd ev q, fun _ => goal 1 rfl⟩
    · have hge : n = 6 := by
        have : ¬ n < 6 := fun q => c ((nI_ltI (by omega) (by decide)).mpr q)
        omega
      exact key _ _ (fun q => absurd q hnb) (fun w2 u2 hw2 hu2 ew2 eu2 => ⟨fun q => absurd q hnv, fun v2 hv2 ev2 => ⟨fun _ => ⟨rfl, hR0⟩, fun q => absurd hge q⟩⟩)
  refine ⟨fun c => go 0 (by decide) c, fun c => ⟨fun c2 => go 1 (by decide) c2, fun c2 => ?_⟩⟩
  refine key _ _ (fun q => absurd q hnb) (fun w2 u2 hw2 hu2 ew2 eu2 => ⟨fun _ => ⟨rfl, hR0⟩, fun v2 hv2 ev2 => ?_⟩)
  rcases (show v2 = 0 ∨ v2 = 1 by omega) with rfl | rfl
  · exact absurd ev2 c
  · exact absurd ev2 c2
