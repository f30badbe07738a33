theorem zu_k {α : Type} {f : Nat → Nat → α} {k i k' j : Nat} {v : α} (h : k' ≠ k) : zz_up f k i v k' j = f k' j := by simp [zz_up, h]
theorem zu_i {α : Type} {f : Nat → Nat → α} {k i k' j : Nat} {v : α} (h : j ≠ i) : zz_up f k i v k' j = f k' j := by simp [zz_up, h]
theorem zu_e {α : Type} {f : Nat → Nat → α} {k i : Nat} {v : α} : zz_up f k i v k i = v := by simp [zz_up]
theorem zc_k {I : zz_I} {k0 k1 n k' j : Nat} (h : k' ≠ k1) : zz_cp I k0 k1 n k' j = I k' j := by simp [zz_cp, h]
theorem zc_e {I : zz_I} {k0 k1 n j : Nat} (h : j < n) : zz_cp I k0 k1 n k1 j = I k0 j := by simp [zz_cp, h]
theorem zs_copyC {t s : Nat} {I : zz_I} {L : zz_L} {P : zz_I → zz_L → Prop} (hts : t + 3 < s ∨ s + 3 < t) (h : ∀ J : zz_I, (∀ k j, (k < t ∨ t + 3 < k) → J k j = I k j) → (∀ j, ¬ (j = 3 ∨ j = 4) → J t j = I t j) → (∀ (lx : Nat → Nat → Nat) (pg : Nat → Nat), lx 0 0 ≤ 8 → pg 0 ≤ 24 → zx_pgC s I lx pg → zx_pgC t J lx pg) → P J L) : zp_X6_copyFrom t s P I L := by
  rintro I12 rfl I27 rfl I42 rfl I50 rfl I58 rfl
  have far : ∀ k j, (k < t ∨ t + 3 < k) → zz_cp (zz_cp (zz_cp I (s + 1) (t + 1) 24) (s + 2) (t + 2) 9) (s + 3) (t + 3) 8 k j = I k j := by
    intro k j hk
    simp only [zz_cp]; rw [if_neg (by omega), if_neg (by omega), if_neg (by omega)]
  refine h _ (fun k j hk => ?_) (fun j hj => ?_) (fun lx pg h8 hu pC => ?_)
  · simp only [zz_up]; rw [if_neg (by omega), if_neg (by omega)]; exact far k j hk
  · simp only [zz_up]; rw [if_neg (by omega), if_neg (by omega)]
    simp only [zz_cp]; rw [if_neg (by omega), if_neg (by omega), if_neg (by omega)]
  · obtain ⟨a, b, c, d, e⟩ := pC
    refine ⟨?_, ?_, fun j hj => ?_, fun w hw => ?_, fun u hu2 => ?_⟩
    · rw [zu_i (by omega), zu_e, far s 3 (by omega)]; exact a
    · rw [zu_e, zu_k (by omega), far s 4 (by omega)]; exact b
    · rw [zu_k (by omega), zu_k (by omega), zc_k (by omega), zc_e (by omega), zc_k (by omega)]; exact c j hj
    · rw [zu_k (by omega), zu_k (by omega), zc_e (by omega), zc_k (by omega), zc_k (by omega)]; exact d w hw
    · rw [zu_k (by omega), zu_k (by omega), zc_k (by omega), zc_k (by omega), zc_e (by omega)]; exact e u hu2
theorem zx_pgM_of {k o k2 o2 : Nat} {I J : zz_I} {lx : Nat → Nat → Nat} {pg : Nat → Nat} (h8 : lx 0 0 ≤ 8) (hu : pg 0 ≤ 24) (h : zx_pgM k o I lx pg) (e : ∀ j, j < 43 → J k2 (o2 + j) = I k (o + j)) : zx_pgM k2 o2 J lx pg := by
  obtain ⟨a, b, c, d, f⟩ := h
  refine ⟨?_, (e 1 (by omega)).trans b, fun j hj => (e _ (by omega)).trans (c j hj), fun w hw => (e _ (by omega)).trans (d w hw), fun u hu2 => (e _ (by omega)).trans (f u hu2)⟩
  have := e 0 (by omega)
  rw [Nat.add_zero, Nat.add_zero] at this
  exact this.trans a
theorem zs_keepL {s : Nat} {I : zz_I} {L : zz_L} {P : Int32 → zz_I → zz_L → Prop} (hs : s < 2) (h : ∀ J : zz_I, (∀ k j, k ≠ 17 → J k j = I k j) → (∀ j, j < 43 → J 17 (43 * s + j) = I 14 j) → (∀ q, (q < 43 * s ∨ 43 * s + 43 ≤ q) → J 17 q = I 17 q) → P (J 0 5) J L) : zp_X8_keep_26 P (nI s) 0 I L := by
  refine ⟨fun y J M => ∃ i, i ≤ 43 ∧ y = nI i ∧ M = L ∧ (∀ k j, k ≠ 17 → J k j = I k j) ∧ (∀ j, j < i → J 17 (43 * s + j) = I 14 j) ∧ ∀ q, (q < 43 * s ∨ 43 * s + 43 ≤ q) → J 17 q = I 17 q, fun y _ _ => 43 - y.toNatClampNeg, ⟨0, by omega, rfl, rfl, fun _ _ _ => rfl, fun j hj => absurd hj (by omega), fun _ _ => rfl⟩, ?_⟩
  rintro y J M ⟨i, hi, rfl, rfl, hf, hb, hn⟩
  unfold zp_X8_keep_26b
  refine pk_le 43 i (fun c => h J hf (fun j hj => hb j (by omega)) hn) (fun c => ?_)
  rw [show (43 : Int32) * nI s + nI i = nI (43 * s + i) by rw [show (43 : Int32) * nI s = nI (43 * s) from pk_mul 43 s, nI_add], zn_cl (by omega), zn_cl (by omega)]
  refine ⟨vp_in_nI (by omega) (by decide), vp_in_nI (by omega) (by decide), ?_⟩
  rintro I48 rfl v49 rfl
  refine ⟨⟨i + 1, by omega, nI_1 i, rfl, fun k j hk => ?_, fun j hj => ?_, fun q hq => ?_⟩, zz_down (n := 43) (by omega) (by decide)⟩
  · simp only [zz_up, hk, false_and, if_false]; exact hf k j hk
  · by_cases q : j = i
    · subst q; rw [zu_e]; exact hf 14 j (by decide)
    · rw [zu_i (by omega)]; exact hb j (by omega)
  · simp only [zz_up]; rw [if_neg (by omega)]; exact hn q hq
theorem zs_againL {s : Nat} {I : zz_I} {L : zz_L} {P : Int32 → zz_I → zz_L → Prop} (hs : s < 2) (h : ∀ J : zz_I, (∀ k j, k ≠ 14 → ¬ (k = 0 ∧ j = 21) → J k j = I k j) → (∀ j, j < 43 → J 14 j = I 17 (43 * s + j)) → J 0 21 = 0 → P (J 0 5) J L) : zp_X8_again_31 P (nI s) 0 I L := by
  refine ⟨fun y J M => ∃ i, i ≤ 43 ∧ y = nI i ∧ M = L ∧ (∀ k j, k ≠ 14 → J k j = I k j) ∧ (∀ j, j < i → J 14 j = I 17 (43 * s + j)), fun y _ _ => 43 - y.toNatClampNeg, ⟨0, by omega, rfl, rfl, fun _ _ _ => rfl, fun j hj => absurd hj (by omega)⟩, ?_⟩
  rintro y J M ⟨i, hi, rfl, rfl, hf, hb⟩
  unfold zp_X8_again_31b
  refine pk_le 43 i (fun c => ?_) (fun c => ?_)
  · rintro I62 rfl
    refine h _ (fun k j hk hkj => ?_) (fun j hj => ?_) rfl
    · simp only [zz_up, hkj, if_false]; exact hf k j hk
    · exact hb j (by omega)
  · rw [show (43 : Int32) * nI s + nI i = nI (43 * s + i) by rw [show (43 : Int32) * nI s = nI (43 * s) from pk_mul 43 s, nI_add], zn_cl (by omega), zn_cl (by omega)]
    refine ⟨vp_in_nI (by omega) (by decide), vp_in_nI (by omega) (by decide), ?_⟩
    rintro I53 rfl v54 rfl
    refine ⟨⟨i + 1, by omega, nI_1 i, rfl, fun k j hk => ?_, fun j hj => ?_⟩, zz_down (n := 43) (by omega) (by decide)⟩
    · simp only [zz_up, hk, false_and, if_false]; exact hf k j hk
    · by_cases q : j = i
      · subst q; rw [zu_e]; exact hf 17 _ (by decide)
      · rw [zu_i (by omega)]; exact hb j (by omega)
theorem zs_undoL {d : Nat} {I : zz_I} {L : zz_L} {P : Int32 → zz_I → zz_L → Prop} (hd : d < 14) (e : I 0 21 = nI d) (h : ∀ J : zz_I, (∀ k j, k ≠ 14 → J k j = I k j) → (∀ j, j < 43 → J 14 j = I 16 (43 * d + j)) → P (J 0 21) J L) : zp_X8_undo_27 P 0 I L := by
  refine ⟨fun y J M => ∃ i, i ≤ 43 ∧ y = nI i ∧ M = L ∧ (∀ k j, k ≠ 14 → J k j = I k j) ∧ (∀ j, j < i → J 14 j = I 16 (43 * d + j)), fun y _ _ => 43 - y.toNatClampNeg, ⟨0, by omega, rfl, rfl, fun _ _ _ => rfl, fun j hj => absurd hj (by omega)⟩, ?_⟩
  rintro y J M ⟨i, hi, rfl, rfl, hf, hb⟩
  unfold zp_X8_undo_27b
  have e21 : J 0 21 = nI d := by rw [hf 0 21 (by decide)]; exact e
  refine pk_le 43 i (fun c => h J hf (fun j hj => hb j (by omega))) (fun c => ?_)
  rw [e21, show (43 : Int32) * nI d + nI i = nI (43 * d + i) by rw [show (43 : Int32) * nI d = nI (43 * d) from pk_mul 43 d, nI_add], zn_cl (by omega), zn_cl (by omega)]
  refine ⟨vp_in_nI (by omega) (by decide), vp_in_nI (by omega) (by decide), ?_⟩
  rintro I52 rfl v53 rfl
  refine ⟨⟨i + 1, by omega, nI_1 i, rfl, fun k j hk => ?_, fun j hj => ?_⟩, zz_down (n := 43) (by omega) (by decide)⟩
  · simp only [zz_up, hk, false_and, if_false]; exact hf k j hk
  · by_cases q : j = i
    · subst q; rw [zu_e]; exact hf 16 _ (by decide)
    · rw [zu_i (by omega)]; exact hb j (by omega)
/-- keep: nothing but a slot changes -/
theorem zx_R_keep {IC IC2 IM K : zz_I} {LC LM : zz_L} {lx : Nat → Nat → Nat} {pg : Nat → Nat} (hm : zx_main IC IM lx pg) (hh : ∃ (d nx : Nat) (pgs : Nat → Nat → Nat), zx_hist IC IM lx pg d nx pgs) (ht : ∃ (n : Nat) (tx : Nat → Nat), zx_text IC IM n tx) (hs : ∃ (n : Nat) (sw su si : Nat → Nat), zx_seen IC IM n sw su si) (hz : zx_misc IC LC IM LM) (h1 : zx_slot IC2 K lx 10 0 48 0) (h2 : zx_slot IC2 K lx 11 1 52 43)
    (hfC : ∀ k j, k < 48 → ¬ (k = 0 ∧ (j = 10 ∨ j = 11)) → IC2 k j = IC k j) (hfM : ∀ k j, k ≠ 17 → k ≠ 18 → ¬ (k = 0 ∧ j = 0) → K k j = IM k j) : zx_R IC2 LC K LM := by
  have c : ∀ k, k < 48 → k ≠ 0 → IC2 k = IC k := fun k hk h0 => funext fun j => hfC k j hk (fun q => h0 q.1)
  have m : ∀ k, k ≠ 17 → k ≠ 18 → k ≠ 0 → K k = IM k := fun k h1 h2 h3 => funext fun j => hfM k j h1 h2 (fun q => h3 q.1)
  have m0 : ∀ j, j ≠ 0 → K 0 j = IM 0 j := fun j hj => hfM 0 j (by omega) (by omega) (by omega)
  obtain ⟨hl, hp, lC, lM, pC, pM⟩ := hm
  refine ⟨lx, pg, ⟨hl, hp, ?_, ?_, ?_, ?_⟩, ?_, h1, h2, ?_, ?_, ?_⟩
  · unfold zx_lexC; rw [c 14 (by omega) (by omega), c (14 + 1) (by omega) (by omega), c (14 + 2) (by omega) (by omega), c (14 + 3) (by omega) (by omega), c (14 + 4) (by omega) (by omega), c (14 + 5) (by omega) (by omega), c (14 + 6) (by omega) (by omega)]; exact lC
  · unfold zx_lexM; rw [m0 5 (by omega), m 2 (by omega) (by omega) (by omega), m (2 + 1) (by omega) (by omega) (by omega), m (2 + 2) (by omega) (by omega) (by omega), m (2 + 3) (by omega) (by omega) (by omega), m (2 + 4) (by omega) (by omega) (by omega)]; exact lM
  · unfold zx_pgC; rw [c 21 (by omega) (by omega), c (21 + 1) (by omega) (by omega), c (21 + 2) (by omega) (by omega), c (21 + 3) (by omega) (by omega)]; exact pC
  · unfold zx_pgM; rw [m 14 (by omega) (by omega) (by omega)]; exact pM
  · obtain ⟨d, nx, pgs, h⟩ := hh
    refine ⟨d, nx, pgs, ?_⟩
    unfold zx_hist zx_pgM; rw [c 29 (by omega) (by omega), c 30 (by omega) (by omega), c 31 (by omega) (by omega), c 32 (by omega) (by omega), m0 21 (by omega), m 16 (by omega) (by omega) (by omega)]; exact h
  · obtain ⟨n, tx, t⟩ := ht
    refine ⟨n, tx, ?_⟩
    unfold zx_text; rw [c 1 (by omega) (by omega), c 2 (by omega) (by omega), m0 2 (by omega), m 1 (by omega) (by omega) (by omega)]; exact t
  · obtain ⟨n, sw, su, si, t⟩ := hs
    refine ⟨n, sw, su, si, ?_⟩
    unfold zx_seen; rw [c 33 (by omega) (by omega), c 34 (by omega) (by omega), c 35 (by omega) (by omega), c 36 (by omega) (by omega), m0 24 (by omega), m 19 (by omega) (by omega) (by omega), m 20 (by omega) (by omega) (by omega), m 21 (by omega) (by omega) (by omega)]; exact t
  · unfold zx_misc; rw [c 4 (by omega) (by omega), c 45 (by omega) (by omega), m 5 (by omega) (by omega) (by omega), m 10 (by omega) (by omega) (by omega)]; exact hz
theorem zo_27_ok : zo_27 zx_R := by
  intro IC LC IM LM p0 hR
  have hR0 := zx_R0 hR
  obtain ⟨lx, pg, hm, hh, h1, h2, ht, hs, hz⟩ := hR
  have hm' := hm
  obtain ⟨hl, hp, lC, lM, pC, pM⟩ := hm'
  have hu24 := hp.1
  have h8 := hl.1
  have key : ∀ (r : Int32) (IC2 : zz_I), ((p0 < 0 ∨ nI 2 ≤ p0) → r = -1 ∧ zx_R IC2 LC (zz_up IM 0 0 0) LM) → (∀ s, s < 2 → p0 = nI s → ∀ K : zz_I, (∀ k j, k ≠ 17 → K k j = zz_up (zz_up IM 0 0 0) 18 s 1 k j) → zx_pgM 17 (43 * s) K lx pg → (∀ q, (q < 43 * s ∨ 43 * s + 43 ≤ q) → K 17 q = IM 17 q) → r = nI (lx 0 0) ∧ zx_R IC2 LC K LM) → zp_X8_keep p0 (fun r2 IM2 LM2 => r = r2 ∧ zx_R IC2 LC IM2 LM2) IM LM := by
    intro r IC2 g1 g2 I2 e2
    subst e2
    refine zs_inR (b := 1) (by decide) rfl (fun c => ⟨fun q => absurd rfl q, fun _ => g1 c⟩) (fun s hs es => ⟨fun _ => ?_, fun q => absurd q (by decide)⟩)
    have g2' := g2 s (by omega) es
    subst es
    refine ⟨vp_in_nI (by omega) (by decide), ?_⟩
    rw [zn_cl (by omega), show vp_nar .boolean (1 : Int32) = 1 by decide]
    rintro I23 rfl
    refine zs_keepL (by omega) (fun J hf hb hn => ?_)
    have e5 : J 0 5 = nI (lx 0 0) := (hf 0 5 (by decide)).trans lM.1
    rw [e5]
    refine g2' J hf ?_ (fun q hq => (hn q hq).trans rfl)
    exact zx_pgM_of h8 hu24 pM (fun j hj => (hb j hj).trans (by rw [Nat.zero_add]; rfl))
  unfold zp_X7_keep
  rcases zn_ix p0 (n := 2) (by decide) with hb | ⟨s, hs2, es⟩
  · have bad : zp_X8_keep p0 (fun r2 IM2 LM2 => (-1 : Int32) = r2 ∧ zx_R IC LC IM2 LM2) IM LM := key _ _ (fun _ => ⟨rfl, hR0⟩) (fun s hs es => (zn_out (by decide) hb hs es).elim)
    refine ⟨fun _ => bad, fun c => ⟨fun c2 => ?_, fun _ => bad⟩⟩
    rcases hb with hb | hb
    · exact absurd hb c
    · exact absurd (Int32.lt_of_le_of_lt hb c2) (by decide)
  · refine ⟨fun c => absurd c (by rw [es]; exact nI_pos (by omega)), fun _ => ⟨fun _ => ?_, fun c => absurd (by rw [es]; exact nI_lt (b := 2) hs2 (by decide)) c⟩⟩
    refine ⟨fun q => ?_, fun q => ?_⟩
    · have s1 : s = 1 := by
        rcases (show s = 0 ∨ s = 1 by omega) with z | z
        · exact absurd (by rw [es, z]; rfl) q
        · exact z
      subst s1
      refine zs_copyC (by omega) (fun J hf hf2 hp2 => ?_)
      rintro I47 rfl
      have e14 : zz_up J 0 11 1 14 6 = nI (lx 0 0) := (hf 14 6 (by omega)).trans lC.1
      rw [e14]
      refine key _ _ (fun c => (zn_out (by decide) c hs2 es).elim) (fun s hs3 es2 K hK1 hK2 hK3 => ?_)
      have q5 := zn_j (by omega) (by omega) (es.symm.trans es2)
      subst q5
      have cJ : ∀ k, (k < 52 ∨ 55 < k) → k ≠ 0 → zz_up J 0 11 1 k = IC k := fun k hk h0 => funext fun j => by rw [zu_k h0]; exact hf k j (by omega)
      refine ⟨rfl, zx_R_keep hm hh ht hs hz ?_ (Or.inr ⟨rfl, ?_, pg, hp, ?_, hK2⟩) (fun k j hk hkj => ?_) (fun k j h17 h18 hkj => ?_)⟩
      · rcases h1 with ⟨a, b⟩ | ⟨a, b, pg9, ok9, c9, m9⟩
        · refine Or.inl ⟨?_, ?_⟩
          · rw [zu_i (by omega), hf 0 10 (by omega)]; exact a
          · rw [hK1 18 0 (by omega), zu_i (by omega)]; exact b
        · refine Or.inr ⟨?_, ?_, pg9, ok9, ?_, ?_⟩
          · rw [zu_i (by omega), hf 0 10 (by omega)]; exact a
          · rw [hK1 18 0 (by omega), zu_i (by omega)]; exact b
          · unfold zx_pgC; rw [cJ 48 (by omega) (by omega), cJ (48 + 1) (by omega) (by omega), cJ (48 + 2) (by omega) (by omega), cJ (48 + 3) (by omega) (by omega)]; exact c9
          · exact zx_pgM_of h8 ok9.1 m9 (fun j hj => by rw [Nat.zero_add]; exact hK3 j (by omega))
      · rw [hK1 18 1 (by omega), zu_e]
      · have := hp2 lx pg h8 hu24 pC
        unfold zx_pgC at this ⊢
        rw [zu_k (by omega), zu_k (by omega)]
        refine ⟨this.1, this.2.1, fun j hj => ?_, fun j hj => ?_, fun j hj => ?_⟩
        · rw [zu_k (by omega)]; exact this.2.2.1 j hj
        · rw [zu_k (by omega)]; exact this.2.2.2.1 j hj
        · rw [zu_k (by omega)]; exact this.2.2.2.2 j hj
      · by_cases h0 : k = 0
        · subst h0; rw [zu_i (by omega)]; exact hf 0 j (by omega)
        · rw [zu_k h0]; exact hf k j (by omega)
      · rw [hK1 k j h17, zu_k (by omega)]
        by_cases h0 : k = 0
        · subst h0; rw [zu_i (by omega)]
        · rw [zu_k h0]
    · have s0 : s = 0 := zn_j (by omega) (by decide) (es.symm.trans q)
      subst s0
      refine zs_copyC (by omega) (fun J hf hf2 hp2 => ?_)
      rintro I28 rfl
      have e14 : zz_up J 0 10 1 14 6 = nI (lx 0 0) := (hf 14 6 (by omega)).trans lC.1
      rw [e14]
      refine key _ _ (fun c => (zn_out (by decide) c hs2 es).elim) (fun s hs3 es2 K hK1 hK2 hK3 => ?_)
      have q5 := zn_j (by omega) (by omega) (es.symm.trans es2)
      subst q5
      have cJ : ∀ k, (k < 48 ∨ 51 < k) → k ≠ 0 → zz_up J 0 10 1 k = IC k := fun k hk h0 => funext fun j => by rw [zu_k h0]; exact hf k j (by omega)
      refine ⟨rfl, zx_R_keep hm hh ht hs hz (Or.inr ⟨rfl, ?_, pg, hp, ?_, hK2⟩) ?_ (fun k j hk hkj => ?_) (fun k j h17 h18 hkj => ?_)⟩
      · rw [hK1 18 0 (by omega), zu_e]
      · have := hp2 lx pg h8 hu24 pC
        unfold zx_pgC at this ⊢
        rw [zu_k (by omega), zu_k (by omega)]
        refine ⟨this.1, this.2.1, fun j hj => ?_, fun j hj => ?_, fun j hj => ?_⟩
        · rw [zu_k (by omega)]; exact this.2.2.1 j hj
        · rw [zu_k (by omega)]; exact this.2.2.2.1 j hj
        · rw [zu_k (by omega)]; exact this.2.2.2.2 j hj
      · rcases h2 with ⟨a, b⟩ | ⟨a, b, pg9, ok9, c9, m9⟩
        · refine Or.inl ⟨?_, ?_⟩
          · rw [zu_i (by omega), hf 0 11 (by omega)]; exact a
          · rw [hK1 18 1 (by omega), zu_i (by omega)]; exact b
        · refine Or.inr ⟨?_, ?_, pg9, ok9, ?_, ?_⟩
          · rw [zu_i (by omega), hf 0 11 (by omega)]; exact a
          · rw [hK1 18 1 (by omega), zu_i (by omega)]; exact b
          · unfold zx_pgC; rw [cJ 52 (by omega) (by omega), cJ (52 + 1) (by omega) (by omega), cJ (52 + 2) (by omega) (by omega), cJ (52 + 3) (by omega) (by omega)]; exact c9
          · exact zx_pgM_of h8 ok9.1 m9 (fun j hj => hK3 (43 + j) (by omega))
      · by_cases h0 : k = 0
        · subst h0; rw [zu_i (by omega)]; exact hf 0 j (by omega)
        · rw [zu_k h0]; exact hf k j (by omega)
      · rw [hK1 k j h17, zu_k (by omega)]
        by_cases h0 : k = 0
        · subst h0; rw [zu_i (by omega)]
        · rw [zu_k h0]
theorem zo_28_ok : zo_28 zx_R := by
  intro IC LC IM LM p0 hR
  have hR0 := zx_R0 hR
  obtain ⟨lx, pg, hm, hh, h1, h2, ht, hs, hz⟩ := hR
  have hm' := hm
  obtain ⟨hl, hp, lC, lM, pC, pM⟩ := hm'
  have h8 := hl.1
  have key : ∀ (r : Int32) (IC2 : zz_I), ((p0 < 0 ∨ nI 2 ≤ p0) → r = -1 ∧ zx_R IC2 LC (zz_up IM 0 0 0) LM) → (∀ s, s < 2 → p0 = nI s → IM 18 s = 0 → r = -3 ∧ zx_R IC2 LC (zz_up IM 0 0 0) LM) → (∀ s, s < 2 → p0 = nI s → ¬ IM 18 s = 0 → ∀ K : zz_I, (∀ k j, k ≠ 14 → ¬ (k = 0 ∧ j = 21) → K k j = zz_up IM 0 0 0 k j) → (∀ j, j < 43 → K 14 j = IM 17 (43 * s + j)) → K 0 21 = 0 → r = nI (lx 0 0) ∧ zx_R IC2 LC K LM) → zp_X8_again p0 (fun r2 IM2 LM2 => r = r2 ∧ zx_R IC2 LC IM2 LM2) IM LM := by
    intro r IC2 g1 g2 g3 I2 e2
    subst e2
    refine zs_inR (b := 1) (by decide) rfl (fun c => ⟨fun q => absurd rfl q, fun _ => g1 c⟩) (fun s hs es => ⟨fun _ => ?_, fun q => absurd q (by decide)⟩)
    have g2' := g2 s (by omega) es
    have g3' := g3 s (by omega) es
    subst es
    refine ⟨vp_in_nI (by omega) (by decide), ?_⟩
    rw [zn_cl (by omega)]
    have e18 : zz_up IM 0 0 0 18 s = IM 18 s := rfl
    rw [e18]
    refine ⟨fun q => ?_, fun q => g2' q⟩
    refine zs_againL (by omega) (fun J hf hb hn => ?_)
    have e5 : J 0 5 = nI (lx 0 0) := (hf 0 5 (by decide) (by omega)).trans lM.1
    rw [e5]
    exact g3' q J hf (fun j hj => (hb j hj).trans rfl) hn
  have good : ∀ (t fC s o : Nat) (J : zz_I) (pg9 : Nat → Nat), (t = 48 ∧ fC = 10 ∧ s = 0 ∧ o = 0) ∨ (t = 52 ∧ fC = 11 ∧ s = 1 ∧ o = 43) → p0 = nI s → ¬ IM 18 s = 0 → zx_pgOK lx pg9 → zx_pgC t IC lx pg9 → zx_pgM 17 o IM lx pg9 → (∀ k j, (k < 21 ∨ 24 < k) → J k j = IC k j) → (∀ (lx : Nat → Nat → Nat) (pg : Nat → Nat), lx 0 0 ≤ 8 → pg 0 ≤ 24 → zx_pgC t IC lx pg → zx_pgC 21 J lx pg) → zp_X1_forget (fun I60 L60 => zp_X8_again p0 (fun r2 IM2 LM2 => I60 14 6 = r2 ∧ zx_R I60 L60 IM2 LM2) IM LM) J LC := by
    intro t fC s o J pg9 hcase es hk ok9 c9 m9 hf hp2
    rintro I2 rfl I7 rfl
    have e14 : zz_up (zz_up J 29 3 0) 29 4 0 14 6 = nI (lx 0 0) := by rw [zu_k (by omega), zu_k (by omega)]; exact (hf 14 6 (by omega)).trans lC.1
    rw [e14]
    have hs2 : s < 2 := by omega
    refine key _ _ (fun c => (zn_out (by decide) c hs2 es).elim) (fun s3 hs3 es3 q => ?_) (fun s3 hs3 es3 q K hK1 hK2 hK3 => ⟨rfl, ?_⟩)
    · have q5 := zn_j (by omega) (by omega) (es.symm.trans es3)
      subst q5; exact absurd q hk
    · have q5 := zn_j (by omega) (by omega) (es.symm.trans es3)
      subst q5
      refine zx_R_mk (IC := IC) (IM := IM) hl ok9 lC lM ?_ ?_ ⟨0, 0, fun _ => pg9, by omega, by omega, rfl, rfl, ?_, rfl, fun i hi => absurd hi (by omega)⟩ h1 h2 ht hs hz (fun k j hk => ?_) (fun k j h14 h16 hkj => ?_)
      · exact hp2 lx pg9 h8 ok9.1 c9
      · refine zx_pgM_of h8 ok9.1 m9 (fun j hj => ?_)
        rw [Nat.zero_add, hK2 j hj, show 43 * s = o by omega]
      · rw [hK3]; rfl
      · rw [zu_k (by omega), zu_k (by omega)]; exact hf k j (by omega)
      · rw [hK1 k j h14 (by omega)]
        by_cases h0 : k = 0
        · subst h0; rw [zu_i (by omega)]
        · rw [zu_k h0]
  unfold zp_X7_again
  rcases zn_ix p0 (n := 2) (by decide) with hb | ⟨s, hs2, es⟩
  · have bad : zp_X8_again p0 (fun r2 IM2 LM2 => (-1 : Int32) = r2 ∧ zx_R IC LC IM2 LM2) IM LM := key _ _ (fun _ => ⟨rfl, hR0⟩) (fun s hs es _ => (zn_out (by decide) hb hs es).elim) (fun s hs es => (zn_out (by decide) hb hs es).elim)
    refine ⟨fun _ => bad, fun c => ⟨fun c2 => ?_, fun _ => bad⟩⟩
    rcases hb with hb | hb
    · exact absurd hb c
    · exact absurd (Int32.lt_of_le_of_lt hb c2) (by decide)
  · refine ⟨fun c => absurd c (by rw [es]; exact nI_pos (by omega)), fun _ => ⟨fun _ => ?_, fun c => absurd (by rw [es]; exact nI_lt (b := 2) hs2 (by decide)) c⟩⟩
    have empty : IM 18 s = 0 → zp_X8_again p0 (fun r2 IM2 LM2 => (-3 : Int32) = r2 ∧ zx_R IC LC IM2 LM2) IM LM := fun hk => key _ _ (fun c => (zn_out (by decide) c hs2 es).elim) (fun _ _ _ _ => ⟨rfl, hR0⟩) (fun s3 hs3 es3 q => by
      have q5 := zn_j (by omega) (by omega) (es.symm.trans es3)
      subst q5; exact absurd hk q)
    refine ⟨fun q => ?_, fun q => ?_⟩
    · have s1 : s = 1 := by
        rcases (show s = 0 ∨ s = 1 by omega) with z | z
        · exact absurd (by rw [es, z]; rfl) q
        · exact z
      subst s1
      unfold zp_X7_again_26
      rcases h2 with ⟨a, b⟩ | ⟨a, b, pg9, ok9, c9, m9⟩
      · exact ⟨fun z => absurd a z, fun _ => empty b⟩
      · refine ⟨fun _ => ⟨fun _ => ?_, fun z => absurd z q⟩, fun z => absurd (a.symm.trans z) (by decide)⟩
        exact zs_copyC (by omega) (fun J hf hf2 hp2 => good 52 11 1 43 J pg9 (Or.inr ⟨rfl, rfl, rfl, rfl⟩) es (by rw [b]; decide) ok9 c9 m9 (fun k j hk => hf k j (by omega)) hp2)
    · have s0 : s = 0 := zn_j (by omega) (by decide) (es.symm.trans q)
      subst s0
      unfold zp_X7_again_26
      rcases h1 with ⟨a, b⟩ | ⟨a, b, pg9, ok9, c9, m9⟩
      · exact ⟨fun z => absurd a z, fun _ => empty b⟩
      · refine ⟨fun _ => ⟨fun z => absurd q z, fun _ => ?_⟩, fun z => absurd (a.symm.trans z) (by decide)⟩
        exact zs_copyC (by omega) (fun J hf hf2 hp2 => good 48 10 0 0 J pg9 (Or.inl ⟨rfl, rfl, rfl, rfl⟩) es (by rw [b]; decide) ok9 c9 m9 (fun k j hk => hf k j (by omega)) hp2)
