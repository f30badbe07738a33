theorem zu_k2 {α : Type} {f : Nat → Nat → α} {k i k' j : Nat} {v : α} (h : ¬ (k' = k ∧ j = i)) : zz_up f k i v k' j = f k' j := by simp only [zz_up]; rw [if_neg h]
theorem zx_set_C1 {t : Nat} {I : zz_I} {lx : Nat → Nat → Nat} {pg : Nat → Nat} {v : Nat} (h : zx_pgC t I lx pg) : zx_pgC t (zz_up I t 4 (nI v)) lx (zx_set pg 1 v) := by
  obtain ⟨a, b, c, d, e⟩ := h
  refine ⟨?_, ?_, fun j hj => ?_, fun w hw => ?_, fun u hu => ?_⟩
  · rw [zu_i (by omega), zx_set_ne (by omega)]; exact a
  · rw [zu_e, zx_set_at]
  · rw [zu_k (by omega), zx_set_ne (by omega)]; exact c j hj
  · rw [zu_k (by omega), zx_set_ne (by omega)]; exact d w hw
  · rw [zu_k (by omega), zx_set_ne (by omega)]; rw [zx_set_ne (by omega)] at hu; exact e u hu
theorem zx_set_C2 {t : Nat} {I : zz_I} {lx : Nat → Nat → Nat} {pg : Nat → Nat} {p v : Nat} (hp : p < 9) (h : zx_pgC t I lx pg) : zx_pgC t (zz_up I (t + 2) p (nI v)) lx (zx_set pg (2 + p) v) := by
  obtain ⟨a, b, c, d, e⟩ := h
  refine ⟨?_, ?_, fun j hj => ?_, fun w hw => ?_, fun u hu => ?_⟩
  · rw [zu_k (by omega), zx_set_ne (by omega)]; exact a
  · rw [zu_k (by omega), zx_set_ne (by omega)]; exact b
  · by_cases q : j = p
    · subst q; rw [zu_e, zx_set_at]
    · rw [zu_i (by omega), zx_set_ne (by omega)]; exact c j hj
  · rw [zu_k (by omega), zx_set_ne (by omega)]; exact d w hw
  · rw [zu_k (by omega), zx_set_ne (by omega)]; rw [zx_set_ne (by omega)] at hu; exact e u hu
theorem zx_set_C3 {t : Nat} {I : zz_I} {lx : Nat → Nat → Nat} {pg : Nat → Nat} {p v : Nat} (h8 : lx 0 0 ≤ 8) (hp : p < 8) (h : zx_pgC t I lx pg) : zx_pgC t (zz_up I (t + 3) p (nI v)) lx (zx_set pg (11 + p) v) := by
  obtain ⟨a, b, c, d, e⟩ := h
  refine ⟨?_, ?_, fun j hj => ?_, fun w hw => ?_, fun u hu => ?_⟩
  · rw [zu_k (by omega), zx_set_ne (by omega)]; exact a
  · rw [zu_k (by omega), zx_set_ne (by omega)]; exact b
  · rw [zu_k (by omega), zx_set_ne (by omega)]; exact c j hj
  · by_cases q : w = p
    · subst q; rw [zu_e, zx_set_at]
    · rw [zu_i (by omega), zx_set_ne (by omega)]; exact d w hw
  · rw [zu_k (by omega), zx_set_ne (by omega)]; rw [zx_set_ne (by omega)] at hu; exact e u hu
theorem zx_wd7 {lx : Nat → Nat → Nat} {v : Nat} (hl : zx_lexOK lx) (hv : v < 7) : 1 ≤ lx 1 v ∧ lx 1 v ≤ 3 := hl.2.1 v hv
/-- what takeBack leaves -/
theorem zs_takeBack {IC IM : zz_I} {LC : zz_L} {lx : Nat → Nat → Nat} {pg : Nat → Nat} {m nx : Nat} {pgs : Nat → Nat → Nat} {P : zz_I → zz_L → Prop} (hl : zx_lexOK lx) (hp : zx_pgOK lx pg) (lC : zx_lexC 14 IC lx) (pC : zx_pgC 21 IC lx pg) (hh : zx_hist IC IM lx pg (m + 1) nx pgs)
    (h : ∀ IC2 : zz_I, (∀ k j, (k < 21 ∨ (24 < k ∧ k < 29) ∨ 29 < k) → IC2 k j = IC k j) → IC2 29 3 = nI m → IC2 29 4 = nI ((nx + 13) % 14) → zx_pgC 21 IC2 lx (pgs m) → P IC2 LC) : zp_X1_takeBack P IC LC := by
  obtain ⟨hd, hnx, e3, e4, e21, epg, hall⟩ := hh
  obtain ⟨-, -, -, e, p, v, f0, f1, f2, hact, hinv⟩ := hall m (by omega)
  have h8 := hl.1
  have hix : (nx + 14 - (m + 1) + m) % 14 = (nx + 13) % 14 := by congr 1; omega
  rw [hix] at f0 f1 f2
  rw [epg] at hinv
  have hlt : (nx + 13) % 14 < 14 := Nat.mod_lt _ (by omega)
  have ev : (((IC 29 4) + (14 : Int32)) - (1 : Int32)) - (((IC 29 4) + (14 : Int32)) - (1 : Int32)) / (14 : Int32) * (14 : Int32) = nI ((nx + 13) % 14) := by
    rw [e4, show nI nx + (14 : Int32) = nI (nx + 14) from nI_add nx 14, show nI (nx + 14) - (1 : Int32) = nI (nx + 13) by rw [← nI_1 (nx + 13), show nI (nx + 13) + (1 : Int32) - 1 = nI (nx + 13) from Int32.add_sub_cancel _ _]]
    exact pk_rem (d := 14) (by omega) (by decide) (by decide)
  generalize (nx + 13) % 14 = z at *
  unfold zp_X1_takeBack
  rw [ev]
  rintro _ rfl
  rw [e3]
  refine ⟨fun c => ?_, fun _ => ⟨fun _ => ?_, fun c => ?_⟩⟩
  · have := (nI_leI (a := m + 1) (b := 0) (by omega) (by omega)).mp c
    omega
  · rintro _ rfl
    have g3 : zz_up IC 29 4 (nI z) 29 3 = nI (m + 1) := e3
    rw [g3, show nI (m + 1) - (1 : Int32) = nI m by rw [← nI_1 m, show nI m + (1 : Int32) - 1 = nI m from Int32.add_sub_cancel _ _]]
    rintro I37 e37
    have fr : ∀ k j, k ≠ 29 → I37 k j = IC k j := fun k j hk => by rw [e37, zu_k hk, zu_k hk]
    have i3 : I37 29 3 = nI m := by rw [e37, zu_e]
    have i4 : I37 29 4 = nI z := by rw [e37, zu_i (by omega), zu_e]
    clear e37
    have pC7 : zx_pgC 21 I37 lx pg := by
      obtain ⟨a, b, c, d, f⟩ := pC
      exact ⟨(fr _ _ (by omega)).trans a, (fr _ _ (by omega)).trans b, fun j hj => (fr _ _ (by omega)).trans (c j hj), fun w hw => (fr _ _ (by omega)).trans (d w hw), fun u hu => (fr _ _ (by omega)).trans (f u hu)⟩
    have wd : ∀ j, j < 7 → I37 (14 + 1) j = nI (lx 1 j) := fun j hj => (fr _ _ (by omega)).trans (lC.2.1 j hj)
    have nw : I37 14 6 = nI (lx 0 0) := (fr _ _ (by omega)).trans lC.1
    rw [zn_cl (by omega)]
    refine ⟨vp_in_nI (by omega) (by decide), ?_⟩
    rw [fr 31 z (by omega), f1]
    rintro _ rfl
    refine ⟨vp_in_nI (by omega) (by decide), ?_⟩
    rw [fr 32 z (by omega), f2]
    rintro _ rfl
    refine ⟨vp_in_nI (by omega) (by decide), ?_⟩
    rw [fr 30 z (by omega), f0]
    rintro _ rfl
    have nn : ∀ a b : Nat, a < 5 → b < 5 → a ≠ b → nI a = nI b → False := fun a b ha hb hab q => hab (zn_j (by omega) (by omega) q)
    rcases hact with ⟨rfl, hv, hp3⟩ | ⟨rfl, hv, hp3⟩ | ⟨rfl, hp3, rfl⟩ | ⟨rfl, hp3, hv⟩ | ⟨rfl, hp3, hv⟩
    · refine ⟨fun _ => ?_, fun q => (nn 0 1 (by omega) (by omega) (by omega) q).elim, fun q => (nn 0 2 (by omega) (by omega) (by omega) q).elim, fun q => (nn 0 3 (by omega) (by omega) (by omega) q).elim, fun q => (nn 0 4 (by omega) (by omega) (by omega) q).elim, fun q => absurd rfl q⟩
      have hb := hl.2.1 v hv
      refine zs_widthOf wd hv (zs_putSign hl hp pC7 hb.2 hp3 (fun J hf hJ => ?_))
      refine h J (fun k j hk => (hf k j (by omega)).trans (fr k j (by omega))) ((hf 29 3 (by omega)).trans i3) ((hf 29 4 (by omega)).trans i4) ?_
      rw [hinv]; exact hJ
    · refine ⟨fun q => (nn 1 0 (by omega) (by omega) (by omega) q).elim, fun _ => ?_, fun q => (nn 1 2 (by omega) (by omega) (by omega) q).elim, fun q => (nn 1 3 (by omega) (by omega) (by omega) q).elim, fun q => (nn 1 4 (by omega) (by omega) (by omega) q).elim, fun _ q => absurd rfl q⟩
      have hb := hl.2.1 v hv
      refine zs_widthOf wd hv (zs_putGap hl hp pC7 hb.2 hp3 (fun J hf hJ => ?_))
      refine h J (fun k j hk => (hf k j (by omega)).trans (fr k j (by omega))) ((hf 29 3 (by omega)).trans i3) ((hf 29 4 (by omega)).trans i4) ?_
      rw [hinv]; exact hJ
    · refine ⟨fun q => (nn 2 0 (by omega) (by omega) (by omega) q).elim, fun q => (nn 2 1 (by omega) (by omega) (by omega) q).elim, fun _ => ?_, fun q => (nn 2 3 (by omega) (by omega) (by omega) q).elim, fun q => (nn 2 4 (by omega) (by omega) (by omega) q).elim, fun _ _ q => absurd rfl q⟩
      refine zs_X2_hasWord (n := lx 0 0) (by omega) nw (fun c => (zn_out (by omega) c hp3 rfl).elim) (fun j hj ej => ⟨fun _ => ?_, fun q => absurd q (by decide)⟩)
      have hp2 := zx_pow_lt (w := p) (by omega)
      have eb : I37 21 4 = nI (pg 1) := pC7.2.1
      rw [eb, zx_two_pow (by omega), zx_xor hp.2.1 hp2]
      rintro _ rfl
      refine h _ (fun k j hk => (zu_k (by omega)).trans (fr k j (by omega))) i3 i4 ?_
      rw [hinv]; exact zx_set_C1 pC7
    · refine ⟨fun q => (nn 3 0 (by omega) (by omega) (by omega) q).elim, fun q => (nn 3 1 (by omega) (by omega) (by omega) q).elim, fun q => (nn 3 2 (by omega) (by omega) (by omega) q).elim, fun _ => ?_, fun q => (nn 3 4 (by omega) (by omega) (by omega) q).elim, fun _ _ _ q => absurd rfl q⟩
      refine ⟨fun c => absurd c (nI_pos (by omega)), fun _ => ⟨fun c => absurd ((nI_leI (a := 9) (by decide) (by omega)).mp c) (by omega), fun _ => ⟨vp_in_nI (by omega) (by decide), ?_⟩⟩⟩
      rw [zn_cl (by omega)]
      rintro _ rfl
      refine h _ (fun k j hk => (zu_k (by omega)).trans (fr k j (by omega))) i3 i4 ?_
      rw [hinv]; exact zx_set_C2 hp3 pC7
    · refine ⟨fun q => (nn 4 0 (by omega) (by omega) (by omega) q).elim, fun q => (nn 4 1 (by omega) (by omega) (by omega) q).elim, fun q => (nn 4 2 (by omega) (by omega) (by omega) q).elim, fun q => (nn 4 3 (by omega) (by omega) (by omega) q).elim, fun _ => ?_, fun _ _ _ _ q => absurd rfl q⟩
      refine zs_X2_hasWord (n := lx 0 0) (by omega) nw (fun c => (zn_out (by omega) c hp3 rfl).elim) (fun j hj ej => ⟨fun q => absurd q (by decide), fun _ => ⟨vp_in_nI (by omega) (by decide), ?_⟩⟩)
      rw [zn_cl (by omega)]
      rintro _ rfl
      refine h _ (fun k j hk => (zu_k (by omega)).trans (fr k j (by omega))) i3 i4 ?_
      rw [hinv]; exact zx_set_C3 h8 (by omega) pC7
  · refine absurd ?_ c
    exact (nI_leI (a := 0) (by omega) (by omega)).mpr (by omega)
theorem zo_12_ok : zo_12 zx_R := by
  intro IC LC IM LM hR
  have hR0 := zx_R0 hR
  obtain ⟨lx, pg, hm, ⟨d, nx, pgs, hh⟩, h1, h2, ht, hs, hz⟩ := hR
  have hm' := hm
  obtain ⟨hl, hp, lC, lM, pC, pM⟩ := hm'
  have hu24 := hp.1
  have h8 := hl.1
  have hh' := hh
  obtain ⟨hd, hnx, e3, e4, e21, epg, hall⟩ := hh'
  have e21' : (zz_up IM 0 0 0) 0 21 = nI d := e21
  unfold zp_X7_undo
  rw [e3]
  cases d with
  | zero =>
    refine ⟨fun q => absurd rfl q, fun _ => ?_⟩
    rintro _ rfl
    rw [e21']
    exact ⟨fun q => absurd rfl q, fun _ => ⟨rfl, hR0⟩⟩
  | succ m =>
    have nz : ¬ nI (m + 1) = 0 := fun q => by have := zn_j (i := m + 1) (j := 0) (by omega) (by omega) q; omega
    refine ⟨fun _ => ?_, fun q => absurd q nz⟩
    refine zs_takeBack hl hp lC pC hh (fun IC2 hfC i3 i4 pC2 => ?_)
    rintro _ rfl
    rw [e21']
    refine ⟨fun _ => ?_, fun q => absurd q nz⟩
    rw [show nI (m + 1) - (1 : Int32) = nI m by rw [← nI_1 m, show nI m + (1 : Int32) - 1 = nI m from Int32.add_sub_cancel _ _]]
    rintro _ rfl
    refine zs_undoL (d := m) (by omega) (by rw [zu_e]) (fun K hf hb => ?_)
    have k21 : K 0 21 = nI m := (hf 0 21 (by omega)).trans (by rw [zu_e])
    rw [i3, k21]
    refine ⟨rfl, ?_⟩
    obtain ⟨bM, bOK, b0, -⟩ := hall m (by omega)
    have k16 : ∀ j, K 16 j = IM 16 j := fun j => (hf 16 j (by omega)).trans rfl
    have hl' := hfC
    refine zx_R_mk (IC := IC) (IM := IM) hl bOK lC lM pC2 ?_ ⟨m, (nx + 13) % 14, pgs, ?_⟩ h1 h2 ht hs hz (fun k j hk => hfC k j (by omega)) (fun k j h14 h16 hkj => ?_)
    · exact zx_pgM_of (k := 16) (o := 43 * m) h8 (by omega) bM (fun j hj => by rw [Nat.zero_add, hb j hj]; rfl)
    · refine ⟨by omega, Nat.mod_lt _ (by omega), i3, i4, k21, rfl, fun i hi => ?_⟩
      obtain ⟨aM, aOK, a0, e, p, v, f0, f1, f2, ha, hv⟩ := hall i (by omega)
      have hix : ((nx + 13) % 14 + 14 - m + i) % 14 = (nx + 14 - (m + 1) + i) % 14 := by omega
      refine ⟨zx_pgM_of h8 (by omega) aM (fun j hj => k16 _), aOK, a0.trans b0.symm, e, p, v, ?_, ?_, ?_, by rw [b0]; exact ha, hv⟩
      · rw [hix, hfC 30 _ (by omega)]; exact f0
      · rw [hix, hfC 31 _ (by omega)]; exact f1
      · rw [hix, hfC 32 _ (by omega)]; exact f2
    · rw [hf k j h14, zu_k2 (by omega), zu_k2 (by omega)]
