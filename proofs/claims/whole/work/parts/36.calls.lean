theorem zo_13_ok : zo_13 zx_R := by
  intro IC LC IM LM p0 p1 hR
  have hR0 := zx_R0 hR
  obtain ⟨lx, pg, ⟨hl, hp, lC, lM, pC, pM⟩, -⟩ := hR
  have hw8 := hl.1
  have hu24 := hp.1
  have key : ∀ r : Int32, ((p0 < 0 ∨ nI (lx 0 0) ≤ p0) → r = -1) → ((p1 < 0 ∨ nI (pg 0) ≤ p1) → r = -1) → (∀ w u, w < lx 0 0 → u < pg 0 → p0 = nI w → p1 = nI u → r = zb_i (zx_lies lx pg w u)) → zp_X8_lies p0 p1 (fun r2 IM2 LM2 => r = r2 ∧ zx_R IC LC IM2 LM2) IM LM := by
    intro r hb1 hb2 hg I2 e2
    subst e2
    refine zs_X8_noWord (n := lx 0 0) (by omega) lM.1 (fun c => ⟨fun _ => ⟨hb1 c, hR0⟩, fun q => absurd q (by decide)⟩) (fun w hw ew => ⟨fun q => absurd rfl q, fun _ => ?_⟩)
    refine zs_X8_noUnit (n := pg 0) (by omega) pM.1 (fun c => ⟨fun q => absurd q (by decide), fun _ => ⟨hb2 c, hR0⟩⟩) (fun u hu eu => ⟨fun _ => ?_, fun q => absurd rfl q⟩)
    have hg' := hg w u hw hu ew eu
    subst ew; subst eu
    refine zs_wordLies (lx := lx) (pg := pg) hl hp lM pM hw (by omega) ?_
    refine zb_br (fun hb => ?_) (fun hb => ?_)
    · rw [hb] at hg'; exact ⟨hg', hR0⟩
    · rw [hb] at hg'; exact ⟨hg', hR0⟩
  unfold zp_X7_lies
  refine zs_X2_hasWord (n := lx 0 0) (by omega) lC.1 (fun c => ⟨fun _ => key _ (fun _ => rfl) (fun _ => rfl) (fun w u hw hu ew eu => (zn_out (by omega) c hw ew).elim), fun q => absurd rfl q⟩) (fun w hw ew => ⟨fun q => absurd q (by decide), fun _ => ?_⟩)
  refine zs_X6_hasUnit (n := pg 0) (by omega) pC.1 (fun c => ⟨fun q => absurd rfl q, fun _ => key _ (fun _ => rfl) (fun _ => rfl) (fun w u hw hu ew eu => (zn_out (by omega) c hu eu).elim)⟩) (fun u hu eu => ⟨fun _ => ?_, fun q => absurd q (by decide)⟩)
  subst ew; subst eu
  refine zs_holdsWord (lx := lx) (pg := pg) hl hp lC pC hw (by omega) ?_
  have fin : ∀ r : Int32, r = zb_i (zx_lies lx pg w u) → zp_X8_lies (nI w) (nI u) (fun r2 IM2 LM2 => r = r2 ∧ zx_R IC LC IM2 LM2) IM LM := by
    intro r er
    refine key r (fun c => (zn_out (by omega) c hw rfl).elim) (fun c => (zn_out (by omega) c hu rfl).elim) (fun w2 u2 h1 h2 e1 e2 => ?_)
    have q1 := zn_j (by omega) (by omega) e1
    have q2 := zn_j (by omega) (by omega) e2
    subst q1; subst q2
    exact er
  exact zb_br (fun hb => fin 0 (by rw [hb]; rfl)) (fun hb => fin 1 (by rw [hb]; rfl))
theorem zo_29_ok : zo_29 zx_R := by
  intro IC LC IM LM p0 hR
  have hR0 := zx_R0 hR
  obtain ⟨lx, pg, ⟨hl, hp, lC, lM, pC, pM⟩, ⟨d, nx, pgs, hh⟩, h1, h2, ⟨n, tx, ht⟩, ⟨k, sw, su, si, hs⟩, hz⟩ := hR
  have m : ∀ (r v : Int32), r = v → r = v ∧ zx_R IC LC (zz_up IM 0 0 0) LM := fun _ _ e => ⟨e, hR0⟩
  refine ⟨fun e => ?_, fun e => ?_, fun e => ?_, fun e => ?_, fun e => ?_, fun e => ?_, fun e => ?_, fun n0 n1 n2 n3 n4 n5 n6 => ?_⟩
  · intro I2 e2
    subst e2; subst e
    refine ⟨fun _ => m _ _ (ht.2.1.trans ht.2.2.1.symm), fun q => absurd q (by decide), fun q => absurd q (by decide), fun q => absurd q (by decide), fun q => absurd q (by decide), fun q => absurd q (by decide), fun q => absurd q (by decide), fun q => absurd rfl q⟩
  · intro I2 e2
    subst e2; subst e
    refine ⟨fun q => absurd q (by decide), fun _ => m _ _ (lC.1.trans lM.1.symm), fun q => absurd q (by decide), fun q => absurd q (by decide), fun q => absurd q (by decide), fun q => absurd q (by decide), fun q => absurd q (by decide), fun _ q => absurd rfl q⟩
  · intro I2 e2
    subst e2; subst e
    refine ⟨fun q => absurd q (by decide), fun q => absurd q (by decide), fun _ => ⟨pk_in 0 43 (by decide), m _ _ (pC.1.trans pM.1.symm)⟩, fun q => absurd q (by decide), fun q => absurd q (by decide), fun q => absurd q (by decide), fun q => absurd q (by decide), fun _ _ q => absurd rfl q⟩
  · refine zs_countGaps hp pC ?_
    intro I2 e2
    subst e2; subst e
    refine ⟨fun q => absurd q (by decide), fun q => absurd q (by decide), fun q => absurd q (by decide), fun _ => zs_gaps hp pM (m _ _ rfl), fun q => absurd q (by decide), fun q => absurd q (by decide), fun q => absurd q (by decide), fun _ _ _ q => absurd rfl q⟩
  · intro I2 e2
    subst e2; subst e
    refine ⟨fun q => absurd q (by decide), fun q => absurd q (by decide), fun q => absurd q (by decide), fun q => absurd q (by decide), fun _ => ⟨pk_in 1 43 (by decide), m _ _ (pC.2.1.trans pM.2.1.symm)⟩, fun q => absurd q (by decide), fun q => absurd q (by decide), fun _ _ _ _ q => absurd rfl q⟩
  · intro I2 e2
    subst e2; subst e
    refine ⟨fun q => absurd q (by decide), fun q => absurd q (by decide), fun q => absurd q (by decide), fun q => absurd q (by decide), fun q => absurd q (by decide), fun _ => m _ _ (hh.2.2.1.trans hh.2.2.2.2.1.symm), fun q => absurd q (by decide), fun _ _ _ _ _ q => absurd rfl q⟩
  · intro I2 e2
    subst e2; subst e
    refine ⟨fun q => absurd q (by decide), fun q => absurd q (by decide), fun q => absurd q (by decide), fun q => absurd q (by decide), fun q => absurd q (by decide), fun q => absurd q (by decide), fun _ => m _ _ (hs.2.1.trans hs.2.2.1.symm), fun _ _ _ _ _ _ q => absurd rfl q⟩
  · intro I2 e2
    subst e2
    exact ⟨fun q => absurd q n0, fun q => absurd q n1, fun q => absurd q n2, fun q => absurd q n3, fun q => absurd q n4, fun q => absurd q n5, fun q => absurd q n6, fun _ _ _ _ _ _ _ => m _ _ rfl⟩
theorem zo_4_ok : zo_4 zx_R := by
  intro IC LC IM LM p0 p1 hR
  have hR0 := zx_R0 hR
  obtain ⟨lx, pg, ⟨hl, hp, lC, lM, pC, pM⟩, -⟩ := hR
  have hw8 := hl.1
  have m : ∀ (r v : Int32), r = v → r = v ∧ zx_R IC LC (zz_up IM 0 0 0) LM := fun _ _ e => ⟨e, hR0⟩
  unfold zp_X7_word
  refine zs_X2_hasWord (n := lx 0 0) (by omega) lC.1 (fun c => ⟨fun q => absurd rfl q, fun _ => ?_⟩) (fun w hw ew => ⟨fun _ => ?_, fun q => absurd q (by decide)⟩)
  · intro I2 e2
    subst e2
    exact zs_X8_noWord (n := lx 0 0) (by omega) lM.1 (fun _ => ⟨fun q => absurd q (by decide), fun _ => m _ _ rfl⟩) (fun j hj e => (zn_out (by omega) c hj e).elim)
  · subst ew
    obtain ⟨s2, s5, -, -, hlt⟩ := hl.2.2.2 w hw
    obtain ⟨c1, c2, c3, c4, c5⟩ := lC.2.2 w hw
    obtain ⟨m1, m2, m3, m4⟩ := lM.2.2 w hw
    have pw := (zx_pgM_at pM).2.1 w hw
    have hba := hp.2.1
    have start : ∀ r : Int32, ((p1 = (0 : Int32) → r = nI (lx 2 w)) ∧ (p1 = (1 : Int32) → r = nI (lx 4 w)) ∧ (p1 = (2 : Int32) → r = nI (lx 5 w)) ∧ (p1 = (3 : Int32) → r = nI (pg (11 + w))) ∧ (p1 = (4 : Int32) → r = nI (zx_sp lx w)) ∧ (p1 = (5 : Int32) → r = (nI (pg 1) >>> (nI w &&& 31)) &&& (1 : Int32)) ∧ (p1 = (6 : Int32) → r = nI (lx 3 (5 * w + (lx 2 w - 1)))) ∧ (¬ p1 = (0 : Int32) → ¬ p1 = (1 : Int32) → ¬ p1 = (2 : Int32) → ¬ p1 = (3 : Int32) → ¬ p1 = (4 : Int32) → ¬ p1 = (5 : Int32) → ¬ p1 = (6 : Int32) → r = -2)) → zp_X8_word (nI w) p1 (fun r2 IM2 LM2 => r = r2 ∧ zx_R IC LC IM2 LM2) IM LM := by
      intro r hr I2 e2
      subst e2
      obtain ⟨r0, r1, r2, r3, r4, r5, r6, r7⟩ := hr
      refine zs_X8_noWord (n := lx 0 0) (by omega) lM.1 (fun c => (zn_out (by omega) c hw rfl).elim) (fun _ _ _ => ⟨fun _ => ?_, fun q => absurd rfl q⟩)
      have em : ∀ k j, ¬ (k = 0 ∧ j = 0) → zz_up IM 0 0 0 k j = IM k j := fun k j h => by simp only [zz_up, h, if_false]
      refine ⟨fun e => ⟨vp_in_nI (by omega) (by decide), m _ _ ?_⟩, fun e => ⟨vp_in_nI (by omega) (by decide), m _ _ ?_⟩, fun e => ⟨vp_in_nI (by omega) (by decide), m _ _ ?_⟩, fun e => ?_, fun e => zs_unitsOf hl lM hw (m _ _ (r4 e)), fun e => ⟨pk_in 1 43 (by decide), m _ _ ?_⟩, fun e => ⟨vp_in_nI (by omega) (by decide), ?_⟩, fun n0 n1 n2 n3 n4 n5 n6 => m _ _ (r7 n0 n1 n2 n3 n4 n5 n6)⟩
      · rw [zn_cl (by omega), r0 e]; exact m1.symm
      · rw [zn_cl (by omega), r1 e]; exact m2.symm
      · rw [zn_cl (by omega), r2 e]; exact m3.symm
      · rw [show (11 : Int32) + nI w = nI (11 + w) from nI_add 11 w, zn_cl (by omega)]
        exact ⟨vp_in_nI (by omega) (by decide), m _ _ ((r3 e).trans pw.symm)⟩
      · have e5 : zz_up IM 0 0 0 14 (1 : Int32).toNatClampNeg = nI (pg 1) := pM.2.1
        rw [e5]; exact r5 e
      · have e6 : zz_up IM 0 0 0 3 (nI w).toNatClampNeg = nI (lx 2 w) := by rw [zn_cl (by omega)]; exact m1
        rw [e6, zx_5', show nI (5 * w + lx 2 w) - (1 : Int32) = nI (5 * w + (lx 2 w - 1)) by
          rw [show 5 * w + lx 2 w = (5 * w + (lx 2 w - 1)) + 1 by omega]; exact nI_pred _, zn_cl (by omega)]
        exact ⟨vp_in_nI (by omega) (by decide), m _ _ ((r6 e).trans (m4 _ (by omega)).symm)⟩
    have ex : ∀ (a b : Int32) (A : Prop), a = b → p1 = a → ¬ p1 = b → A := fun a b A h1 h2 h3 => absurd (h2.trans h1) h3
    refine ⟨fun e => ?_, fun e => ?_, fun e => ?_, fun e => ?_, fun e => ?_, fun e => ?_, fun e => ?_, fun n0 n1 n2 n3 n4 n5 n6 => ?_⟩
    · rw [zn_cl (by omega)]
      refine ⟨vp_in_nI (by omega) (by decide), start _ ?_⟩
      subst e
      exact ⟨fun _ => c1, fun q => absurd q (by decide), fun q => absurd q (by decide), fun q => absurd q (by decide), fun q => absurd q (by decide), fun q => absurd q (by decide), fun q => absurd q (by decide), fun q => absurd rfl q⟩
    · rw [zn_cl (by omega)]
      refine ⟨vp_in_nI (by omega) (by decide), start _ ?_⟩
      subst e
      exact ⟨fun q => absurd q (by decide), fun _ => c2, fun q => absurd q (by decide), fun q => absurd q (by decide), fun q => absurd q (by decide), fun q => absurd q (by decide), fun q => absurd q (by decide), fun _ q => absurd rfl q⟩
    · rw [zn_cl (by omega)]
      refine ⟨vp_in_nI (by omega) (by decide), start _ ?_⟩
      subst e
      exact ⟨fun q => absurd q (by decide), fun q => absurd q (by decide), fun _ => c3, fun q => absurd q (by decide), fun q => absurd q (by decide), fun q => absurd q (by decide), fun q => absurd q (by decide), fun _ _ q => absurd rfl q⟩
    · rw [zn_cl (by omega)]
      refine ⟨vp_in_nI (by omega) (by decide), start _ ?_⟩
      subst e
      exact ⟨fun q => absurd q (by decide), fun q => absurd q (by decide), fun q => absurd q (by decide), fun _ => pC.2.2.2.1 w hw, fun q => absurd q (by decide), fun q => absurd q (by decide), fun q => absurd q (by decide), fun _ _ _ q => absurd rfl q⟩
    · rw [zn_cl (by omega)]
      refine ⟨vp_in_nI (by omega) (by decide), start _ ?_⟩
      subst e
      exact ⟨fun q => absurd q (by decide), fun q => absurd q (by decide), fun q => absurd q (by decide), fun q => absurd q (by decide), fun _ => c4, fun q => absurd q (by decide), fun q => absurd q (by decide), fun _ _ _ _ q => absurd rfl q⟩
    · have e5 : IC 21 4 = nI (pg 1) := pC.2.1
      rw [e5]
      refine start _ ?_
      subst e
      exact ⟨fun q => absurd q (by decide), fun q => absurd q (by decide), fun q => absurd q (by decide), fun q => absurd q (by decide), fun q => absurd q (by decide), fun _ => rfl, fun q => absurd q (by decide), fun _ _ _ _ _ q => absurd rfl q⟩
    · have e6 : IC 17 (nI w).toNatClampNeg = nI (lx 2 w) := by rw [zn_cl (by omega)]; exact c1
      rw [e6, show nI (lx 2 w) - (1 : Int32) = nI (lx 2 w - 1) by
          conv => lhs; rw [show lx 2 w = (lx 2 w - 1) + 1 by omega]
          exact nI_pred _]
      refine ⟨vp_in_nI (by omega) (by decide), zs_letterOf hl lC hw (by omega) (start _ ?_)⟩
      subst e
      exact ⟨fun q => absurd q (by decide), fun q => absurd q (by decide), fun q => absurd q (by decide), fun q => absurd q (by decide), fun q => absurd q (by decide), fun q => absurd q (by decide), fun _ => rfl, fun _ _ _ _ _ _ q => absurd rfl q⟩
    · exact start _ ⟨fun q => absurd q n0, fun q => absurd q n1, fun q => absurd q n2, fun q => absurd q n3, fun q => absurd q n4, fun q => absurd q n5, fun q => absurd q n6, fun _ _ _ _ _ _ _ => rfl⟩
/-! putting and removing signs -/
theorem zs_putGap {t u n : Nat} {I : zz_I} {L : zz_L} {lx : Nat → Nat → Nat} {pg : Nat → Nat} {P : zz_I → zz_L → Prop} (hl : zx_lexOK lx) (hp : zx_pgOK lx pg) (pC : zx_pgC t I lx pg) (hn : n ≤ 3) (hu : u + n ≤ pg 0) (h : ∀ J : zz_I, (∀ k j, k ≠ t + 1 → J k j = I k j) → zx_pgC t J lx (zx_gap pg u n) → P J L) : zp_X6_putGap t (nI u) (nI n) P I L := by
  have hu24 := hp.1
  refine ⟨fun y J M => ∃ i, i ≤ n ∧ y = nI i ∧ M = L ∧ (∀ k j, k ≠ t + 1 → J k j = I k j) ∧ zx_pgC t J lx (zx_gap pg u i), fun y _ _ => 3 - y.toNatClampNeg, ⟨0, by omega, rfl, rfl, fun _ _ _ => rfl, ?_⟩, ?_⟩
  · have : zx_gap pg u 0 = pg := by funext j; unfold zx_gap; rw [if_neg (by omega)]
    rw [this]; exact pC
  · rintro y J M ⟨i, hi, rfl, rfl, hf, hJ⟩
    unfold zp_X6_putGap_2b
    refine pk_le n i (fun c => ?_) (fun c => ?_)
    · have : i = n := by omega
      subst this; exact h J hf hJ
    · have e3 : J t 3 = nI (pg 0) := by rw [hf t 3 (by omega)]; exact pC.1
      rw [nI_add]
      refine zs_X6_hasUnit (n := pg 0) (by omega) e3 (fun c => (zn_out (by omega) c (show u + i < pg 0 by omega) rfl).elim) (fun _ _ _ => ⟨fun q => absurd q (by decide), fun _ => ⟨vp_in_nI (by omega) (by decide), ?_⟩⟩)
      rw [zn_cl (by omega)]
      rintro I26 rfl v27 rfl
      refine ⟨⟨i + 1, by omega, nI_1 i, rfl, fun k j hk => ?_, ?_⟩, zz_down (n := 3) (by omega) (by decide)⟩
      · simp only [zz_up, hk, false_and, if_false]; exact hf k j hk
      · obtain ⟨a, b, c', d, e⟩ := hJ
        have lo : ∀ i j, j < 19 → zx_gap pg u i j = pg j := fun i j hj => by unfold zx_gap; rw [if_neg (by omega)]
        refine ⟨?_, ?_, fun j hj => ?_, fun w hw => ?_, fun v hv => ?_⟩
        · rw [lo _ _ (by omega)]; rw [lo _ _ (by omega)] at a
          simp only [zz_up]; rw [if_neg (by omega)]; exact a
        · rw [lo _ _ (by omega)]; rw [lo _ _ (by omega)] at b
          simp only [zz_up]; rw [if_neg (by omega)]; exact b
        · have := c' j hj
          rw [lo _ _ (by omega)] at this ⊢
          simp only [zz_up]; rw [if_neg (by omega)]; exact this
        · have := d w hw
          simp only [zz_up]; rw [if_neg (by omega), this]
          have hw8 := hl.1
          rw [lo _ _ (by omega), lo _ _ (by omega)]
        · rw [lo _ _ (by omega)] at hv
          have := e v (by rw [lo _ _ (by omega)]; exact hv)
          by_cases hvi : v = u + i
          · subst hvi
            simp only [zz_up, and_self, if_true]
            unfold zx_gap; rw [if_pos (by omega)]; rfl
          · simp only [zz_up]; rw [if_neg (by omega), this]
            congr 1
            unfold zx_gap
            by_cases q1 : 19 + u ≤ 19 + v ∧ 19 + v < 19 + u + i
            · rw [if_pos q1, if_pos (by omega)]
            · rw [if_neg q1, if_neg (by omega)]
