/-! which -/
/-- what a question leaves of the class -/
def zx_qf (I : zz_I) (L : zz_L) (J : zz_I) (M : zz_L) : Prop := (∀ k j, (k < 37 ∨ 47 < k) → J k j = I k j) ∧ (J 45 0 = 0 ∨ J 45 0 = 14016) ∧ M 0 12 = L 0 12
theorem zx_os_fit {lx : Nat → Nat → Nat} {pg : Nat → Nat} {b : Bool} {n : Nat} {sw su si : Nat → Nat} : ∀ u w, zx_os lx pg b n sw su si u w = true → zx_fit lx pg u w = true := fun u w h => by
  unfold zx_os at h
  rw [Bool.and_eq_true] at h
  exact h.1
section
variable {I : zz_I} {L : zz_L} {lx : Nat → Nat → Nat} {pg : Nat → Nat} {n : Nat} {sw su si : Nat → Nat} {g : Nat → Nat → Bool}
theorem zs_whichC {P : Int64 → zz_I → zz_L → Prop} {x : Nat} (hx : x < 2) (hl : zx_lexOK lx) (hp : zx_pgOK lx pg) (lC : zx_lexC 14 I lx) (pC : zx_pgC 21 I lx pg) (z3 : I 45 0 = 0 ∨ I 45 0 = 14016) (hn : n ≤ 6) (e33 : I 33 3 = nI n) (hj : ∀ j, j < n → sw j < 8 ∧ su j < 24 ∧ si j < 2 ∧ I 34 j = nI (sw j) ∧ I 35 j = nI (su j) ∧ I 36 j = nI (si j)) (hg : ∀ a w, a < lx 0 0 → g a w = zx_fo lx pg a w) (hg8 : ∀ w, g 8 w = true)
    (h0 : x = 0 → ∀ (J : zz_I) (M : zz_L), zx_qf I L J M → P (lN (zk_A (pg 0) (lx 0 0) (zx_sp lx) (zx_os lx pg true n sw su si) (zx_fo lx pg))) J M)
    (h1 : x ≠ 0 → zk_A (pg 0) (lx 0 0) (zx_sp lx) (zx_os lx pg true n sw su si) (zx_fo lx pg) = 0 → ∀ (J : zz_I) (M : zz_L), zx_qf I L J M → P (-9 : Int64) J M)
    (h2 : x ≠ 0 → 0 < zk_A (pg 0) (lx 0 0) (zx_sp lx) (zx_os lx pg true n sw su si) (zx_fo lx pg) → ∀ (J : zz_I) (M : zz_L) (t m : Nat), zx_qf I L J M → zk_isW (pg 0) (lx 0 0) (zx_sp lx) (fun w => pg (11 + w)) (zx_os lx pg true n sw su si) (zx_fo lx pg) 0 t → zk_fin (pg 0) (lx 0 0) (zx_sp lx) (fun w => pg (11 + w)) (zx_os lx pg true n sw su si) (zx_fo lx pg) g t 0 m → P (lN (zk_U (pg 0) (lx 0 0) (zx_sp lx) (fun w => pg (11 + w)) (zx_fit lx pg) (zx_fo lx pg) t + zk_VV (pg 0) (lx 0 0) (zx_sp lx) (fun w => pg (11 + w)) (zx_os lx pg true n sw su si) (zx_fit lx pg) (zx_fo lx pg) g t 0 m)) J M) : zp_X7_whichn_13 P (nI x) I L := by
  have h24 := hp.1
  have h8 := hl.1
  have hwt : ∀ w, w < lx 0 0 → I 24 w = nI ((fun w => pg (11 + w)) w) ∧ 1 ≤ (fun w => pg (11 + w)) w ∧ (fun w => pg (11 + w)) w ≤ 9 := fun w hw => ⟨pC.2.2.2.1 w hw, hp.2.2.2.1 w hw⟩
  have hin := zx_os_le (b := true) (n := n) (sw := sw) (su := su) (si := si) hl hp
  have hA30 := zk_A_bd (op := zx_os lx pg true n sw su si) (fo := zx_fo lx pg) hl hp
  refine zs_countSel hl hp lC pC hn e33 hj (fun J M om' um hst => ?_)
  have eA : zk_A (pg 0) (lx 0 0) (zx_sp lx) (zx_cs lx pg n sw su si) (zx_fo lx pg) = zk_A (pg 0) (lx 0 0) (zx_sp lx) (zx_os lx pg true n sw su si) (zx_fo lx pg) := by
    rcases zx_cs_A (lx := lx) (pg := pg) (n := n) (sw := sw) (su := su) (si := si) (fo := zx_fo lx pg) with q | ⟨q1, q2⟩
    · rw [zx_cs_os q]
    · rw [q1, q2]
  have eo : 0 < zk_A (pg 0) (lx 0 0) (zx_sp lx) (zx_os lx pg true n sw su si) (zx_fo lx pg) → zx_cs lx pg n sw su si = zx_os lx pg true n sw su si := by
    intro q0
    rcases zx_cs_A (lx := lx) (pg := pg) (n := n) (sw := sw) (su := su) (si := si) (fo := zx_fo lx pg) with q | ⟨q1, q2⟩
    · exact zx_cs_os q
    · omega
  rw [eA]
  have fr : zx_qf I L J M := ⟨fun k j hk => hst.1 k j (by omega), by rw [hst.1 45 0 (by omega)]; exact z3, hst.2.1 0 12 (by omega)⟩
  have hx0 : ¬ nI x = 0 → x ≠ 0 := fun z q => z (by rw [q]; rfl)
  refine ⟨fun hz => ⟨fun z => ?_, fun z => ?_⟩, fun z => h0 (zn_j (j := 0) (by omega) (by decide) z) J M fr⟩
  · have hA : 0 < zk_A (pg 0) (lx 0 0) (zx_sp lx) (zx_os lx pg true n sw su si) (zx_fo lx pg) := Nat.pos_of_ne_zero (fun q => z (by rw [q]; rfl))
    rw [eo hA] at hst
    refine zs_bd hst hwt z3 (fun J2 M2 hb => ?_)
    obtain ⟨b1, b2, b3, b4, b5, b6, b7, b8⟩ := hb
    refine zs_find (rank := 0) (g := g) b3 b4 b5 hin hg hg8 b6 b7 b8 hA (by decide) (fun J3 t m jf hW ht1 hfin hm8 j4 j3 j7 => ?_)
    rw [Nat.zero_sub] at hfin j7
    have f3 : ∀ k j, (k < 37 ∨ 47 < k) → J3 k j = I k j := fun k j hk => by
      rw [jf k j (by omega) (by omega)]; exact b1 k j (by omega)
    have h0' : 0 < zk_HV (pg 0) (lx 0 0) (zx_sp lx) (fun w => pg (11 + w)) (zx_os lx pg true n sw su si) (zx_fo lx pg) g 0 8 t := by
      rw [zk_HV_W hg8]
      obtain ⟨a1, a2, a3⟩ := hW
      omega
    refine zs_countAll (by omega) hl hp (zx_lexC_fr (fun k j hk => f3 k j (Or.inl hk)) lC) (zx_pgC_fr (by omega) (fun k j hk => f3 k j (Or.inl hk)) pC) (fun J4 M4 om4 um4 hst4 => ?_)
    obtain ⟨s1, s2, s3, s4, s5, s6, s7, s8⟩ := hst4
    have f4 : J4 45 0 = 14016 := by rw [s1 45 0 (by omega), jf 45 0 (by omega) (by omega)]; exact b5.1
    refine zs_buildc (wt := fun w => pg (11 + w)) s3 s4 (fun w hw => ?_) f4 (fun J5 M5 j5f m5f c5 e5 => ?_)
    · rw [s1 24 w (by omega), f3 24 w (by omega)]; exact hwt w hw
    refine zs_rankOfPath (op := zx_os lx pg true n sw su si) (opc := zx_fit lx pg) (g := g) (r := 0) (t := t) (n := m) (um := um4) c5 s4 e5 hin hg hg8 zx_os_fit ((j5f 37 8 (by omega)).trans s5) s6 (fun w q => (s7 w).mpr ⟨0, ?_, q⟩) hW.1 h0' hfin hm8 ?_ ?_ (fun j hj2 => ?_) (h2 (hx0 hz) hA J5 M5 t m ⟨fun k j hk => ?_, ?_, ?_⟩ hW hfin)
    · have q1 := s3.2.2.2.2.2.2 0 w q
      have := (s3.2.2.2.2.1 w q1.1).2.1
      omega
    · rw [j5f 44 4 (by omega), s1 44 4 (by omega)]; exact j4
    · rw [j5f 44 3 (by omega), s1 44 3 (by omega)]; exact j3
    · rw [j5f 47 j (by omega), s1 47 j (by omega)]; exact j7 j hj2
    · rw [j5f k j (by omega), s1 k j (by omega)]; exact f3 k j hk
    · rw [j5f 45 0 (by omega)]; exact Or.inr f4
    · rw [m5f 0 12 (by omega), s2 0 12 (by omega)]; exact b2 0 12 (by omega) (by omega)
  · exact h1 (hx0 hz) ((pk_lEQ (b := 0) (by omega) (by decide)).mp z) J M fr
theorem zs_whichM {P : Int64 → zz_I → zz_L → Prop} {x : Nat} (hx : x < 2) (hl : zx_lexOK lx) (hp : zx_pgOK lx pg) (hm : zx_mm I lx pg n sw su si)
    (h0 : x = 0 → ∀ N : zz_L, (∀ k j, k ≠ 22 → N k j = L k j) → P (lN (zk_A (pg 0) (lx 0 0) (zx_sp lx) (zx_os lx pg true n sw su si) (zx_fo lx pg))) I N)
    (h1 : x ≠ 0 → zk_A (pg 0) (lx 0 0) (zx_sp lx) (zx_os lx pg true n sw su si) (zx_fo lx pg) = 0 → ∀ N : zz_L, (∀ k j, k ≠ 22 → N k j = L k j) → P (-9 : Int64) I N)
    (h2 : x ≠ 0 → 0 < zk_A (pg 0) (lx 0 0) (zx_sp lx) (zx_os lx pg true n sw su si) (zx_fo lx pg) → ∀ (K : zz_I) (N : zz_L) (t m : Nat), (∀ k j, k ≠ 25 → ¬ (k = 0 ∧ (j = 33 ∨ j = 34)) → K k j = I k j) → (∀ k j, k ≠ 22 → N k j = L k j) → zk_isW (pg 0) (lx 0 0) (zx_sp lx) (fun w => pg (11 + w)) (zx_os lx pg true n sw su si) (zx_fo lx pg) 0 t → zk_fin (pg 0) (lx 0 0) (zx_sp lx) (fun w => pg (11 + w)) (zx_os lx pg true n sw su si) (zx_fo lx pg) (zx_g I 14 lx pg) t 0 m → P (lN (zk_U (pg 0) (lx 0 0) (zx_sp lx) (fun w => pg (11 + w)) (zx_fit lx pg) (zx_fo lx pg) t + zk_VV (pg 0) (lx 0 0) (zx_sp lx) (fun w => pg (11 + w)) (zx_os lx pg true n sw su si) (zx_fit lx pg) (zx_fo lx pg) (zx_g I 14 lx pg) t 0 m)) K N) : zp_X8_layHeavy 14 (1 : Int32) (fun I25 L25 => zp_X8_which_37 P (nI x) (0 : Int64) (-9 : Int32) (0 : Int32) I25 L25) I L := by
  have h8 := hl.1
  have h24 := hp.1
  have hsp : ∀ w, w < lx 0 0 → 2 ≤ zx_sp lx w := fun w hw => (zx_sp_bd hl hw).1
  have hwt : ∀ w, w < lx 0 0 → (fun w => pg (11 + w)) w ≤ 9 := fun w hw => (hp.2.2.2.1 w hw).2
  refine zs_layHeavy (b := true) hl hp hm (fun M mf hF => ?_)
  have e0 : I 14 (0 : Int32).toNatClampNeg = nI (pg 0) := hm.2.1.1
  obtain ⟨A, eA⟩ : ∃ A, A = zk_A (pg 0) (lx 0 0) (zx_sp lx) (zx_os lx pg true n sw su si) (zx_fo lx pg) := ⟨_, rfl⟩
  obtain ⟨W, eW⟩ : ∃ W, W = zk_W (pg 0) (lx 0 0) (zx_sp lx) (fun w => pg (11 + w)) (zx_os lx pg true n sw su si) (zx_fo lx pg) := ⟨_, rfl⟩
  have hsum : zt_sum 73 W = A := by rw [eW, eA]; exact zk_W_sum h24 hsp hwt
  have hWb : ∀ t, W t ≤ 8 ^ 9 := fun t => by rw [eW]; exact zk_W_bd h8 h24 hsp
  have hW : ∀ t, t < 73 → M 22 (584 + t) = lN (W t) := fun t ht => by
    have := hF 0 8 t (by omega) (by omega) ht
    rw [zk_HV_W (fun w => zx_g8)] at this
    rw [eW, ← this]
  have hW0 : pg 0 = 0 → ∀ t, W t = 0 := fun q t => by
    rw [eW]
    unfold zk_W
    refine zt_sum_zero (fun w _ => ?_)
    rw [zk_T_no (by omega)]; simp
  have hU0 : ∀ b, (∀ s, b < s → s < 73 → W s = 0) → zk_U (pg 0) (lx 0 0) (zx_sp lx) (fun w => pg (11 + w)) (zx_os lx pg true n sw su si) (zx_fo lx pg) b = 0 := fun b q => by
    unfold zk_U
    refine zt_sum_zero (fun i hi => ?_)
    rw [← eW]
    exact q (72 - i) (by omega) (by omega)
  rw [← eA] at h0 h1 h2
  have hx0 : ¬ nI x = 0 → x ≠ 0 := fun z q => z (by rw [q]; rfl)
  have last : ∀ (y2 : Int64) (y4 : Int32), y2 = lN A → ((y4 = (-9 : Int32) ∧ A = 0) ∨ ∃ b, b ≤ 72 ∧ y4 = nI b ∧ zk_isW (pg 0) (lx 0 0) (zx_sp lx) (fun w => pg (11 + w)) (zx_os lx pg true n sw su si) (zx_fo lx pg) 0 b) → zp_X8_which_98 P (nI x) y2 y4 I M := by
    rintro _ y4 rfl hy
    refine ⟨fun hz => ⟨fun z => ?_, fun z => ?_⟩, fun z => h0 (zn_j (j := 0) (by omega) (by decide) z) M mf⟩
    · rcases hy with ⟨q, -⟩ | ⟨b, hb, rfl, hWi⟩
      · exact absurd q z
      · have hA : 0 < A := by
          obtain ⟨a1, a2, a3⟩ := id hWi
          rcases zk_isW_ex (wt := fun w => pg (11 + w)) (op := zx_os lx pg true n sw su si) (fo := zx_fo lx pg) h24 hsp hwt (s := b) with q | q
          · rw [← eA] at q; omega
          · omega
        have h0' : 0 < zk_HV (pg 0) (lx 0 0) (zx_sp lx) (fun w => pg (11 + w)) (zx_os lx pg true n sw su si) (zx_fo lx pg) (zx_g I 14 lx pg) 0 8 b := by
          rw [zk_HV_W (fun w => zx_g8)]
          obtain ⟨a1, a2, a3⟩ := hWi
          omega
        refine zs_findM (b := true) (t := b) (r := 0) hl hp hm hb (by decide) hF h0' (fun J m jf hfin hm8 j34 j33 j25 => ?_)
        obtain ⟨mJ, gJ⟩ := zx_mm_fr (J := J) (fun k j q1 q2 => jf k j q1 (by omega)) hm
        have hf2 := hfin
        rw [← gJ] at h0' hf2 j25
        refine zs_aheadOf hl hp mJ (zx_os_le hl hp) hb h0' hf2 hm8 j34 j33 j25 (fun N nf => ?_)
        rw [gJ]
        exact h2 (hx0 hz) hA J N b m jf (fun k j hk => (nf k j hk).trans (mf k j hk)) hWi hfin
    · rcases hy with ⟨-, q⟩ | ⟨b, hb, q, -⟩
      · exact h1 (hx0 hz) q M mf
      · rw [z] at q
        exact absurd (show (-9 : Int32) < 0 by decide) (by rw [q]; exact nI_pos (by omega))
  refine ⟨fun y2 y4 y5 => ∃ i : Nat, i ≤ 73 ∧ y5 = nI i ∧ y2 = lN (zt_sum i W) ∧ ((y4 = (-9 : Int32) ∧ ∀ s, s < i → W s = 0) ∨ ∃ b, b < i ∧ y4 = nI b ∧ 0 < W b ∧ ∀ s, b < s → s < i → W s = 0), fun _ _ y5 => 73 - y5.toNatClampNeg, ⟨0, by omega, rfl, rfl, Or.inl ⟨rfl, fun s hs => absurd hs (by omega)⟩⟩, ?_⟩
  rintro y2 y4 y5 ⟨i, hi, rfl, rfl, hy⟩
  unfold zp_X8_which_37b
  refine pk_le 73 i (fun c => ?_) (fun c => ⟨pk_in 0 43 (by decide), ?_⟩)
  · have : i = 73 := by omega
    subst this
    refine last _ _ (by rw [hsum]) ?_
    rcases hy with ⟨q1, q2⟩ | ⟨b, q1, q2, q3, q4⟩
    · exact Or.inl ⟨q1, by rw [← hsum]; exact zt_sum_zero q2⟩
    · refine Or.inr ⟨b, by omega, q2, by omega, ?_, ?_⟩
      · rw [hU0 b q4]; exact Nat.le_refl _
      · rw [hU0 b q4, ← eW]; omega
  · rw [e0]
    refine pk_le (pg 0) 0 (fun c2 => ?_) (fun c2 => ?_)
    · have z0 := hW0 (by omega)
      have hA0 : A = 0 := by rw [← hsum]; exact zt_sum_zero (fun s _ => z0 s)
      refine last _ _ (by rw [hA0, zt_sum_zero (fun s _ => z0 s)]) ?_
      rcases hy with ⟨q1, q2⟩ | ⟨b, q1, q2, q3, q4⟩
      · exact Or.inl ⟨q1, hA0⟩
      · rw [z0] at q3; omega
    · rw [show (584 : Int32) + nI i = nI (584 + i) from nI_add 584 i, zn_cl (n := 584 + i) (by omega), hW i (by omega), lN_add]
      refine ⟨vp_in_nI (by omega) (by decide), ?_⟩
      rintro _ rfl
      have hb := hWb i
      refine ⟨vp_in_nI (by omega) (by decide), zn_lle (a := W i) (b := 0) (by omega) (by omega) (fun c3 => ?_) (fun c3 => ?_)⟩
      · rintro _ rfl
        refine ⟨⟨i + 1, by omega, nI_1 i, rfl, ?_⟩, zz_down (i := i) (n := 73) (by omega) (by omega)⟩
        rcases hy with ⟨q1, q2⟩ | ⟨b, q1, q2, q3, q4⟩
        · refine Or.inl ⟨q1, fun s hs => ?_⟩
          by_cases e : s = i
          · subst e; omega
          · exact q2 s (by omega)
        · refine Or.inr ⟨b, by omega, q2, q3, fun s h3 h4 => ?_⟩
          by_cases e : s = i
          · subst e; omega
          · exact q4 s h3 (by omega)
      · rintro _ rfl
        exact ⟨⟨i + 1, by omega, nI_1 i, rfl, Or.inr ⟨i, by omega, rfl, c3, fun s h3 h4 => absurd h3 (by omega)⟩⟩, zz_down (i := i) (n := 73) (by omega) (by omega)⟩
end
theorem zo_22_ok : zo_22 zx_R := by
  intro IC LC IM LM p0 hR
  have hR0 := zx_R0 hR
  obtain ⟨lx, pg, ⟨hl, hp, lC, lM, pC, pM⟩, -, -, -, -, ⟨n, sw, su, si, hs⟩, hz⟩ := id hR
  have mm := zx_mm_of lM pM hz hs
  obtain ⟨z1, z2, z3, z4, z5⟩ := hz
  obtain ⟨s1, s2, s3, s4⟩ := hs
  have h24 := hp.1
  have h8 := hl.1
  have out : (p0 < 0 ∨ nI 2 ≤ p0) → zp_X8_which p0 (fun r2 IM2 LM2 => (-2 : Int64) = r2 ∧ zx_R IC LC IM2 LM2) IM LM := by
    intro c
    rintro _ rfl
    exact zs_inR (b := 1) (by decide) rfl (fun _ => ⟨fun q => absurd rfl q, fun _ => ⟨rfl, hR0⟩⟩) (fun j hj e => (zn_out (n := 2) (by decide) c (by omega) e).elim)
  have core : ∀ x : Nat, x < 2 → p0 = nI x → zp_X7_whichn_13 (fun r IC2 LC2 => zp_X8_which p0 (fun r2 IM2 LM2 => r = r2 ∧ zx_R IC2 LC2 IM2 LM2) IM LM) p0 IC LC := by
    rintro x hx rfl
    have rq : ∀ (J : zz_I) (M : zz_L), zx_qf IC LC J M → ∀ (K : zz_I) (N : zz_L), (∀ k j, k ≠ 25 → ¬ (k = 0 ∧ (j = 33 ∨ j = 34)) → K k j = zz_up IM 0 0 0 k j) → (∀ k j, k ≠ 22 → N k j = LM k j) → zx_R J M K N := fun J M fr K N kf nf => by
      obtain ⟨f1, f2, f3⟩ := fr
      refine zx_R_q hR (fun k j hk => f1 k j (by omega)) f2 (fun k j h1 h2 h3 => ?_) ?_
      · rw [kf k j h2 (by omega), zu_k2 (by omega)]
      · rw [f3, nf 0 28 (by omega)]; exact z1
    have ref : ∀ (r : Int64) (J : zz_I) (M : zz_L), zx_qf IC LC J M → (x = 0 → r = lN (zk_A (pg 0) (lx 0 0) (zx_sp lx) (zx_os lx pg true n sw su si) (zx_fo lx pg))) → (x ≠ 0 → zk_A (pg 0) (lx 0 0) (zx_sp lx) (zx_os lx pg true n sw su si) (zx_fo lx pg) = 0 → r = (-9 : Int64)) → (x ≠ 0 → 0 < zk_A (pg 0) (lx 0 0) (zx_sp lx) (zx_os lx pg true n sw su si) (zx_fo lx pg) → ∀ t m : Nat, zk_isW (pg 0) (lx 0 0) (zx_sp lx) (fun w => pg (11 + w)) (zx_os lx pg true n sw su si) (zx_fo lx pg) 0 t → zk_fin (pg 0) (lx 0 0) (zx_sp lx) (fun w => pg (11 + w)) (zx_os lx pg true n sw su si) (zx_fo lx pg) (zx_g (zz_up IM 0 0 0) 14 lx pg) t 0 m → r = lN (zk_U (pg 0) (lx 0 0) (zx_sp lx) (fun w => pg (11 + w)) (zx_fit lx pg) (zx_fo lx pg) t + zk_VV (pg 0) (lx 0 0) (zx_sp lx) (fun w => pg (11 + w)) (zx_os lx pg true n sw su si) (zx_fit lx pg) (zx_fo lx pg) (zx_g (zz_up IM 0 0 0) 14 lx pg) t 0 m)) → zp_X8_which (nI x) (fun r2 IM2 LM2 => r = r2 ∧ zx_R J M IM2 LM2) IM LM := by
      intro r J M fr r0 r1 r2
      rintro _ rfl
      refine zs_inR (b := 1) (by decide) rfl (fun c => (zn_out (n := 2) (by decide) c hx rfl).elim) (fun j hj e => ⟨fun _ => ?_, fun q => absurd q (by decide)⟩)
      exact zs_whichM hx hl hp mm (fun e0 N nf => ⟨r0 e0, rq J M fr _ N (fun _ _ _ _ => rfl) nf⟩) (fun e0 eA N nf => ⟨r1 e0 eA, rq J M fr _ N (fun _ _ _ _ => rfl) nf⟩) (fun e0 eA K N t m kf nf hW hfin => ⟨r2 e0 eA t m hW hfin, rq J M fr K N kf nf⟩)
    refine zs_whichC (n := n) (sw := sw) (su := su) (si := si) (g := zx_g (zz_up IM 0 0 0) 14 lx pg) hx hl hp lC pC z3 s1 s2 (fun j hj => ?_) (fun a w ha => zx_gw h8 ha) (fun w => zx_g8) (fun e0 J M fr => ?_) (fun e0 eA J M fr => ?_) (fun e0 eA J M t m fr hW hfin => ?_)
    · obtain ⟨a1, a2, a3, a4, a5, a6, a7, a8, a9⟩ := s4 j hj
      exact ⟨a1, a2, a3, a4, a6, a8⟩
    · exact ref _ J M fr (fun _ => rfl) (fun q => absurd e0 q) (fun q => absurd e0 q)
    · exact ref _ J M fr (fun q => absurd q e0) (fun _ _ => rfl) (fun _ q => absurd q (by omega))
    · refine ref _ J M fr (fun q => absurd q e0) (fun _ q => absurd q (by omega)) (fun _ _ t2 m2 hW2 hfin2 => ?_)
      have et := zk_isW_u hW hW2
      subst et
      have em := zk_fin_u hfin hfin2
      subst em
      rfl
  refine ⟨fun z => core 0 (by decide) z, fun z => ⟨fun z2 => core 1 (by decide) z2, fun z2 => out ?_⟩⟩
  rcases zn_ix p0 (n := 2) (by decide) with q | ⟨j, hj, rfl⟩
  · exact q
  · exfalso
    have : j = 0 ∨ j = 1 := by omega
    rcases this with e | e
    · subst e; exact z rfl
    · subst e; exact z2 rfl
