theorem zx_mm_of {IC IM : zz_I} {LC LM : zz_L} {lx : Nat → Nat → Nat} {pg : Nat → Nat} {n : Nat} {sw su si : Nat → Nat} (lM : zx_lexM 5 2 IM lx) (pM : zx_pgM 14 0 IM lx pg) (hz : zx_misc IC LC IM LM) (hs : zx_seen IC IM n sw su si) : zx_mm (zz_up IM 0 0 0) lx pg n sw su si := by
  obtain ⟨z1, z2, z3, z4, z5⟩ := hz
  obtain ⟨s1, s2, s3, s4⟩ := hs
  refine (zx_mm_fr (I := IM) (fun k j h1 h2 => zu_k2 (by omega)) ⟨lM, pM, z4, s1, s3, fun j hj => ?_⟩).1
  obtain ⟨a1, a2, a3, a4, a5, a6, a7, a8, a9⟩ := s4 j hj
  exact ⟨a1, a2, a3, a5, a7, a9⟩
theorem zn_two {p : Int32} (h : (-2 : Int32) ≤ p) (h1 : ¬ p = (-1 : Int32)) (h2 : ¬ p = (-2 : Int32)) : ¬ p < 0 := by
  intro hn
  rw [Int32.le_iff_toInt_le] at h
  rw [Int32.lt_iff_toInt_lt] at hn
  have e2 : (-2 : Int32).toInt = -2 := by decide
  have e1 : (-1 : Int32).toInt = -1 := by decide
  have e0 : (0 : Int32).toInt = 0 := by decide
  have q1 : p.toInt ≠ -1 := fun z => h1 (Int32.toInt_inj.mp (z.trans e1.symm))
  have q2 : p.toInt ≠ -2 := fun z => h2 (Int32.toInt_inj.mp (z.trans e2.symm))
  omega
/-- the class behind count and build -/
def zk_bd (I J : zz_I) (L M : zz_L) (un nw : Nat) (sp wt : Nat → Nat) (fo op : Nat → Nat → Bool) (om' : Nat → Nat) (um : Nat) : Prop := (∀ k j, (k < 37 ∨ 46 < k ∨ k = 44) → J k j = I k j) ∧ (∀ k j, k ≠ 43 → k ≠ 45 → M k j = L k j) ∧ zk_ch J un nw sp fo om' ∧ zk_op un nw sp fo op om' ∧ zk_en un nw sp wt op fo om' J M ∧ J 37 8 = nI um ∧ um < 256 ∧ ∀ w, (om' 0).testBit w = true → um.testBit w = true
theorem zs_bd {I J : zz_I} {L M : zz_L} {un nw : Nat} {sp wt : Nat → Nat} {fo op : Nat → Nat → Bool} {om' : Nat → Nat} {um : Nat} {P : zz_I → zz_L → Prop} (hst : zk_st I J L M un nw sp fo op om' um) (hwt : ∀ w, w < nw → I 24 w = nI (wt w) ∧ 1 ≤ wt w ∧ wt w ≤ 9) (h45 : I 45 0 = 0 ∨ I 45 0 = 14016) (h : ∀ (K : zz_I) (N : zz_L), zk_bd I K L N un nw sp wt fo op om' um → P K N) : zp_X3_buildn P J M := by
  obtain ⟨a, b, c, d, e, f, g, i⟩ := hst
  refine zs_buildn (wt := wt) c d (fun w hw => ?_) (by rw [a 45 0 (by omega)]; exact h45) (fun K N kf nf kc ke => h K N ⟨fun k j hk => ?_, fun k j h1 h2 => ?_, kc, d, ke, ?_, f, fun w q => (g w).mpr ⟨0, ?_, q⟩⟩)
  · rw [a 24 w (by omega)]; exact hwt w hw
  · rw [kf k j (by omega) (by omega)]; exact a k j (by omega)
  · rw [nf k j h2]; exact b k j h1
  · rw [kf 37 8 (by omega) (by omega)]; exact e
  · have h1 := c.2.2.2.2.2.2 0 w q
    have := (c.2.2.2.2.1 w h1.1).2.1
    omega
theorem zo_15_ok : zo_15 zx_R := by
  intro IC LC IM LM p0 p1 hR
  have hR0 := zx_R0 hR
  obtain ⟨lx, pg, ⟨hl, hp, lC, lM, pC, pM⟩, -, -, -, -, ⟨n0, sw, su, si, hs⟩, hz⟩ := id hR
  have mm := zx_mm_of lM pM hz hs
  obtain ⟨z1, z2, z3, z4, z5⟩ := hz
  have h24 := hp.1
  have h8 := hl.1
  have hwt : ∀ w, w < lx 0 0 → IC 24 w = nI ((fun w => pg (11 + w)) w) ∧ 1 ≤ (fun w => pg (11 + w)) w ∧ (fun w => pg (11 + w)) w ≤ 9 := fun w hw => ⟨pC.2.2.2.1 w hw, hp.2.2.2.1 w hw⟩
  refine ⟨fun c2 => ?_, fun c2 => ?_⟩
  · refine zs_countAll (by omega) hl hp lC pC (fun J M om' um hst => ?_)
    have rq : ∀ (K : zz_I) (N : zz_L), (∀ k j, k ≠ 25 → ¬ (k = 0 ∧ (j = 33 ∨ j = 34)) → K k j = zz_up IM 0 0 0 k j) → (∀ k j, k ≠ 22 → N k j = LM k j) → zx_R J M K N := fun K N kf nf => by
      refine zx_R_q hR (fun k j hk => hst.1 k j (by omega)) (by rw [hst.1 45 0 (by omega)]; exact z3) (fun k j h1 h2 h3 => ?_) ?_
      · rw [kf k j h2 (by omega), zu_k2 (by omega)]
      · rw [hst.2.1 0 12 (by omega), nf 0 28 (by omega)]; exact z1
    have hA := zk_A_bd (op := zx_fit lx pg) (fo := zx_fo lx pg) hl hp
    refine ⟨fun c => ?_, fun c => ?_⟩
    · rintro _ rfl
      exact ⟨fun _ => ⟨fun _ => ⟨rfl, rq _ _ (fun _ _ _ _ => rfl) (fun _ _ _ => rfl)⟩, fun q => absurd c q⟩, fun q => absurd c2 q⟩
    · obtain ⟨k, hk, rfl⟩ := pk_lOf c
      refine zn_llt hk (by omega) (fun ck => ?_) (fun ck => ?_)
      · refine zs_bd hst hwt z3 (fun J2 M2 hb => ?_)
        obtain ⟨b1, b2, b3, b4, b5, b6, b7, b8⟩ := hb
        refine zs_find (g := zx_g (zz_up IM 0 0 0) 14 lx pg) b3 b4 b5 (fun u w hw q => zx_fit_le hl hp hw q) (fun a w ha => zx_gw h8 ha) (fun w => zx_g8) b6 b7 b8 ck (by omega) (fun J3 t n jf hW ht1 hfin hn8 j4 j3 j7 => ?_)
        have rq3 : ∀ (K : zz_I) (N : zz_L), (∀ k j, k ≠ 25 → ¬ (k = 0 ∧ (j = 33 ∨ j = 34)) → K k j = zz_up IM 0 0 0 k j) → (∀ k j, k ≠ 22 → N k j = LM k j) → zx_R J3 M2 K N := fun K N kf nf => by
          refine zx_R_q hR (fun k j hk => ?_) ?_ (fun k j h1 h2 h3 => ?_) ?_
          · rw [jf k j (by omega) (by omega)]; exact b1 k j (by omega)
          · rw [jf 45 0 (by omega) (by omega)]; exact Or.inr b5.1
          · rw [kf k j h2 (by omega), zu_k2 (by omega)]
          · rw [b2 0 12 (by omega) (by omega), nf 0 28 (by omega)]; exact z1
        have ref : ∀ r : Int32, (p1 = (-1 : Int32) → r = nI t) → (p1 = (-2 : Int32) → r = nI n) → (∀ j, p1 = nI j → j < n → r = J3 47 j) → (¬ p1 < 0 → nI n ≤ p1 → r = (-9 : Int32)) → zp_X8_rank (lN k) p1 (fun r2 IM2 LM2 => r = r2 ∧ zx_R J3 M2 IM2 LM2) IM LM := by
          intro r r1 r2 r3 r4
          rintro _ rfl
          refine ⟨fun _ => ⟨fun q => absurd q c, fun _ => ?_⟩, fun q => absurd c2 q⟩
          refine zs_findRank hl hp mm hk (fun q => absurd q (by omega)) (fun K N t' m kf nf hW' hfin' hm8 k34 k33 k25 => ?_)
          have et := zk_isW_u hW hW'
          subst et
          have en := zk_fin_u hfin hfin'
          subst en
          refine ⟨fun _ => ⟨fun q1 => ⟨fun q2 => ?_, fun q2 => ?_⟩, fun q1 => ?_⟩, fun q => absurd q (by decide)⟩
          · have hpos := zn_two c2 q1 q2
            rw [k33]
            refine ⟨fun q3 => ⟨r4 hpos q3, rq3 K N kf nf⟩, fun q3 => ?_⟩
            rcases zn_ix p1 (n := n) (by omega) with (q | q) | ⟨j, hj, rfl⟩
            · exact absurd q hpos
            · exact absurd q q3
            · rw [zn_cl (n := j) (by omega), k25 j hj]
              exact ⟨vp_in_nI (by omega) (by decide), (r3 j rfl hj).trans (j7 j hj), rq3 K N kf nf⟩
          · rw [k33]; exact ⟨r2 q2, rq3 K N kf nf⟩
          · rw [k34]; exact ⟨r1 q1, rq3 K N kf nf⟩
        refine ⟨fun q1 => ⟨fun q2 => ?_, fun q2 => ?_⟩, fun q1 => ?_⟩
        · have hpos := zn_two c2 q1 q2
          rw [j3]
          refine ⟨fun q3 => ref _ (fun z => absurd z q1) (fun z => absurd z q2) (fun j e hj => ?_) (fun _ _ => rfl), fun q3 => ?_⟩
          · rw [e] at q3
            have := (nI_leI (by omega) (by omega)).mp q3
            omega
          · rcases zn_ix p1 (n := n) (by omega) with (q | q) | ⟨j, hj, rfl⟩
            · exact absurd q hpos
            · exact absurd q q3
            · rw [zn_cl (n := j) (by omega)]
              refine ⟨vp_in_nI (by omega) (by decide), ref _ (fun z => absurd z q1) (fun z => absurd z q2) (fun j2 e hj2 => ?_) (fun _ z => absurd z q3)⟩
              have := zn_j (by omega) (by omega) e
              subst this; rfl
        · rw [j3]
          subst q2
          refine ref _ (fun z => absurd z (by decide)) (fun _ => rfl) (fun j e hj => ?_) (fun z => absurd (by decide) z)
          exact absurd (show (-2 : Int32) < 0 by decide) (by rw [e]; exact nI_pos (by omega))
        · rw [j4]
          subst q1
          refine ref _ (fun _ => rfl) (fun z => absurd z (by decide)) (fun j e hj => ?_) (fun z => absurd (by decide) z)
          exact absurd (show (-1 : Int32) < 0 by decide) (by rw [e]; exact nI_pos (by omega))
      · rintro _ rfl
        refine ⟨fun _ => ⟨fun q => absurd q c, fun _ => ?_⟩, fun q => absurd c2 q⟩
        refine zs_findRank hl hp mm hk (fun _ N nf => ⟨fun q => absurd rfl q, fun _ => ⟨rfl, rq _ N (fun _ _ _ _ => rfl) nf⟩⟩) (fun K N t' m kf nf hW' hfin' hm8 k34 k33 k25 => ?_)
        exfalso
        have hx := zk_isW_ex (wt := fun w => pg (11 + w)) (op := zx_fit lx pg) (fo := zx_fo lx pg) h24 (fun w hw => (zx_sp_bd hl hw).1) (fun w hw => (hwt w hw).2.2) (s := t')
        obtain ⟨y1, y2, y3⟩ := hW'
        omega
  · rintro _ rfl
    exact ⟨fun q => absurd q c2, fun _ => ⟨rfl, hR0⟩⟩
