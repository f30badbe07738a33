theorem zz_down2 {i n : Nat} (h : i < n) (hn : n < 2 ^ 31) : n - (nI i + (1 : Int32)).toNatClampNeg < n - i := by
  have := zz_down h hn
  rw [nI_clamp (n := i) (by omega)] at this
  exact this
theorem zs_lay {t : Nat} {I : zz_I} {L : zz_L} {lx : Nat → Nat → Nat} {pg : Nat → Nat} {P : zz_I → zz_L → Prop} (ht : t < 34) (hl : zx_lexOK lx) (hp : zx_pgOK lx pg) (lC : zx_lexC 14 I lx) (pC : zx_pgC t I lx pg) (h : ∀ J : zz_I, (∀ k j, (k < 37 ∨ 41 < k) → J k j = I k j) → zk_ch J (pg 0) (lx 0 0) (zx_sp lx) (zx_fo lx pg) (fun u => zy_mk (lx 0 0) (zx_fit lx pg u)) → P J L) : zp_X0_lay t P I L := by
  have h8 := hl.1
  have h24 := hp.1
  have hb1 := hp.2.1
  rintro _ rfl _ rfl
  have e3 : I t 3 = nI (pg 0) := pC.1
  have e6 : zz_up I 37 6 (I t 3) 14 6 = nI (lx 0 0) := lC.1
  rw [e6, e3]
  refine zs_fill2 (by decide) (fun J0 hf0 hb0 => ?_)
  have fr0 : ∀ k j, (k < 37 ∨ 41 < k) → J0 k j = I k j := fun k j hk => by rw [hf0 k j (by omega), zu_k (by omega), zu_k (by omega)]
  have a6 : J0 37 6 = nI (pg 0) := by rw [hf0 37 6 (by omega), zu_i (by omega), zu_e]
  have a7 : J0 37 7 = nI (lx 0 0) := by rw [hf0 37 7 (by omega), zu_e]
  refine ⟨fun y J M => ∃ i, i ≤ lx 0 0 ∧ y = nI i ∧ M = L ∧ (∀ k j, (k < 37 ∨ 41 < k) → J k j = I k j) ∧ J 37 6 = nI (pg 0) ∧ J 37 7 = nI (lx 0 0) ∧ (∀ w, w < i → J 41 w = nI (zx_sp lx w) ∧ J 40 w = nI (zy_mk (lx 0 0) (zx_fo lx pg w))) ∧ ∀ u, u < 25 → J 38 u = nI (zy_mk i (zx_fit lx pg u)), fun y _ _ => 8 - y.toNatClampNeg, ⟨0, by omega, rfl, rfl, fr0, a6, a7, fun w hw => absurd hw (by omega), fun u hu => hb0 u hu⟩, ?_⟩
  rintro y J M ⟨i, hi, rfl, rfl, hf, b6, b7, hw, hm⟩
  unfold zp_X0_lay_26b
  refine pk_le (lx 0 0) i (fun c => ?_) (fun c => ?_) (hx := b7)
  · have : i = lx 0 0 := by omega
    subst this
    refine h J hf ⟨b6, b7, h24, h8, fun w hw2 => ?_, fun u hu => ⟨hm u hu, zy_mk_256 h8⟩, fun u w hb => ?_⟩
    · obtain ⟨x1, x2⟩ := hw w hw2
      have := zx_sp_bd hl hw2
      exact ⟨x1, this.1, this.2, x2⟩
    · rw [zy_mk_bit, Bool.and_eq_true, decide_eq_true_eq] at hb
      exact ⟨hb.1, zx_fit_le hl hp hb.1 hb.2⟩
  · have hsp := zx_sp_bd hl c
    rw [zn_cl (by omega), hf 20 i (by omega)]
    have e20 : I 20 i = nI (zx_sp lx i) := (lC.2.2 i c).2.2.2.1
    rw [e20]
    refine ⟨vp_in_nI (by omega) (by decide), vp_in_nI (by omega) (by decide), ?_⟩
    rintro I45 e45
    have f45 : ∀ k j, k < 37 → I45 k j = I k j := fun k j hk => by rw [e45, zu_k (by omega)]; exact hf k j (by omega)
    refine zs_followersOf hl hp (zx_lexC_fr f45 lC) (zx_pgC_fr ht f45 pC) c ?_
    refine ⟨vp_in_nI (by omega) (by decide), ?_⟩
    rintro I57 e57
    have g41 : I57 41 i = nI (zx_sp lx i) := by rw [e57, zu_k (by omega), e45, zu_e]
    have fr : ∀ k j, (k < 37 ∨ 41 < k) → I57 k j = I k j := fun k j hk => by rw [e57, zu_k (by omega), e45, zu_k (by omega)]; exact hf k j hk
    have g6 : I57 37 6 = nI (pg 0) := by rw [e57, zu_k (by omega), e45, zu_k (by omega)]; exact b6
    have g7 : I57 37 7 = nI (lx 0 0) := by rw [e57, zu_k (by omega), e45, zu_k (by omega)]; exact b7
    have gw : ∀ w, w < i + 1 → I57 41 w = nI (zx_sp lx w) ∧ I57 40 w = nI (zy_mk (lx 0 0) (zx_fo lx pg w)) := by
      intro w hw2
      by_cases q : w = i
      · subst q; exact ⟨g41, by rw [e57, zu_e]⟩
      · rw [e57, zu_k (by omega), zu_i q, e45, zu_i q, zu_k (by omega)]; exact hw w (by omega)
    have gm : ∀ u, u < 25 → I57 38 u = nI (zy_mk i (zx_fit lx pg u)) := fun u hu => by rw [e57, zu_k (by omega), e45, zu_k (by omega)]; exact hm u hu
    clear e57 e45 f45
    refine ⟨fun y J M2 => ∃ j, j ≤ 25 ∧ y = nI j ∧ M = M2 ∧ (∀ k j, (k < 37 ∨ 41 < k) → J k j = I k j) ∧ J 37 6 = nI (pg 0) ∧ J 37 7 = nI (lx 0 0) ∧ (∀ w, w < i + 1 → J 41 w = nI (zx_sp lx w) ∧ J 40 w = nI (zy_mk (lx 0 0) (zx_fo lx pg w))) ∧ ∀ u, u < 25 → J 38 u = nI (zy_mk (if u < j then i + 1 else i) (zx_fit lx pg u)), fun y _ _ => 25 - y.toNatClampNeg, ⟨0, by omega, rfl, rfl, fr, g6, g7, gw, gm⟩, ?_⟩
    rintro y J M2 ⟨j, hj, rfl, rfl, kf, k6, k7, kw, km⟩
    unfold zp_X0_lay_61b
    have q41 : J 41 i = nI (zx_sp lx i) := (kw i (by omega)).1
    have hK : ∀ k j, k < 37 → J k j = I k j := fun k j hk => kf k j (Or.inl hk)
    have pCJ := zx_pgC_fr ht hK pC
    have lCJ := zx_lexC_fr hK lC
    have q4 : J t 4 = nI (pg 1) := pCJ.2.1
    rw [zn_cl (by omega), q41, k6, nI_add, q4]
    refine ⟨vp_in_nI (by omega) (by decide), ?_⟩
    have out : (∀ u, j ≤ u → zx_fit lx pg u i = false) → ∀ v159 : Int32, v159 = nI i + 1 → (∃ i2, i2 ≤ lx 0 0 ∧ v159 = nI i2 ∧ M = M ∧ (∀ k j, (k < 37 ∨ 41 < k) → J k j = I k j) ∧ J 37 6 = nI (pg 0) ∧ J 37 7 = nI (lx 0 0) ∧ (∀ w, w < i2 → J 41 w = nI (zx_sp lx w) ∧ J 40 w = nI (zy_mk (lx 0 0) (zx_fo lx pg w))) ∧ ∀ u, u < 25 → J 38 u = nI (zy_mk i2 (zx_fit lx pg u))) ∧ 8 - v159.toNatClampNeg < 8 - (nI i).toNatClampNeg := by
      rintro q _ rfl
      refine ⟨⟨i + 1, by omega, nI_1 i, rfl, kf, k6, k7, kw, fun u hu => ?_⟩, zz_down (by omega) (by omega)⟩
      rw [km u hu]
      by_cases c2 : u < j
      · rw [if_pos c2]
      · rw [if_neg c2]
        simp only [zy_mk]; rw [q u (by omega)]; simp
    refine pk_lt (pg 0) (j + zx_sp lx i) (fun c1 => out (fun u hu => ?_)) (fun c1 => ?_)
    · cases q : zx_fit lx pg u i
      · rfl
      · have := zx_fit_le hl hp c q; omega
    · refine zy_bit' hb1 (by omega) (fun c2 => out (fun u hu => ?_)) (fun c2 => ?_)
      · unfold zx_fit; rw [c2]; rfl
      · refine ⟨vp_in_nI (by omega) (by decide), ?_⟩
        rintro _ rfl
        have stay : zx_fit lx pg j i = false → ∀ v153 : Int32, v153 = nI j + 1 → (∃ j2, j2 ≤ 25 ∧ v153 = nI j2 ∧ M = M ∧ (∀ k j, (k < 37 ∨ 41 < k) → J k j = I k j) ∧ J 37 6 = nI (pg 0) ∧ J 37 7 = nI (lx 0 0) ∧ (∀ w, w < i + 1 → J 41 w = nI (zx_sp lx w) ∧ J 40 w = nI (zy_mk (lx 0 0) (zx_fo lx pg w))) ∧ ∀ u, u < 25 → J 38 u = nI (zy_mk (if u < j2 then i + 1 else i) (zx_fit lx pg u))) ∧ 25 - v153.toNatClampNeg < 25 - (nI j).toNatClampNeg := by
          rintro q _ rfl
          refine ⟨⟨j + 1, by omega, nI_1 j, rfl, kf, k6, k7, kw, fun u hu => ?_⟩, zz_down (by omega) (by omega)⟩
          rw [km u hu]
          by_cases c3 : u = j
          · subst c3
            rw [if_neg (by omega), if_pos (by omega)]
            simp only [zy_mk]; rw [q]; simp
          · by_cases c4 : u < j
            · rw [if_pos c4, if_pos (by omega)]
            · rw [if_neg c4, if_neg (by omega)]
        have go : ∀ b : Bool, b = (decide (j + zx_sp lx i = pg 0) || zx_can lx pg (j + zx_sp lx i) 6) → zp_X0_lay_122 (fun z3 I7 L7 => (∃ i2, i2 ≤ lx 0 0 ∧ z3 = nI i2 ∧ L7 = M ∧ (∀ k j, (k < 37 ∨ 41 < k) → I7 k j = I k j) ∧ I7 37 6 = nI (pg 0) ∧ I7 37 7 = nI (lx 0 0) ∧ (∀ w, w < i2 → I7 41 w = nI (zx_sp lx w) ∧ I7 40 w = nI (zy_mk (lx 0 0) (zx_fo lx pg w))) ∧ ∀ u, u < 25 → I7 38 u = nI (zy_mk i2 (zx_fit lx pg u))) ∧ 8 - z3.toNatClampNeg < 8 - (nI i).toNatClampNeg) (fun z4 I7 L7 => (∃ j2, j2 ≤ 25 ∧ z4 = nI j2 ∧ M = L7 ∧ (∀ k j, (k < 37 ∨ 41 < k) → I7 k j = I k j) ∧ I7 37 6 = nI (pg 0) ∧ I7 37 7 = nI (lx 0 0) ∧ (∀ w, w < i + 1 → I7 41 w = nI (zx_sp lx w) ∧ I7 40 w = nI (zy_mk (lx 0 0) (zx_fo lx pg w))) ∧ ∀ u, u < 25 → I7 38 u = nI (zy_mk (if u < j2 then i + 1 else i) (zx_fit lx pg u))) ∧ 25 - z4.toNatClampNeg < 25 - (nI j).toNatClampNeg) P t (nI i) (nI j) (zb_i b) J M := by
          intro b hb
          refine zb_br (fun q => ?_) (fun q => ?_)
          · refine stay ?_
            unfold zx_fit; rw [← hb, q, Bool.and_false]
          · refine zs_holdsWord hl hp lCJ pCJ c (by omega) (zb_br (fun r => ?_) (fun r => ?_))
            · refine stay ?_
              unfold zx_fit; rw [r]; simp
            · rw [zn_cl (by omega), km j (by omega), if_neg (by omega), zx_two_pow (by omega), zy_or (zy_mk_256 (by omega)) (zx_pow_lt (by omega))]
              refine ⟨vp_in_nI (by omega) (by decide), vp_in_nI (by omega) (by decide), ?_⟩
              rintro _ rfl _ rfl
              refine ⟨⟨j + 1, by omega, nI_1 j, rfl, fun k j2 hk => (zu_k (by omega)).trans (kf k j2 hk), (zu_k (by omega)).trans k6, (zu_k (by omega)).trans k7, fun w hw2 => ?_, fun u hu => ?_⟩, zz_down2 (by omega) (by omega)⟩
              · rw [zu_k (by omega), zu_k (by omega)]; exact kw w hw2
              · by_cases c3 : u = j
                · subst c3
                  have hfit : zx_fit lx pg u i = true := by unfold zx_fit; rw [c2, r, ← hb, q]; rfl
                  rw [zu_e, if_pos (by omega)]
                  simp only [zy_mk]; rw [hfit]; simp
                · rw [zu_i c3, km u hu]
                  by_cases c4 : u < j
                  · rw [if_pos c4, if_pos (by omega)]
                  · rw [if_neg c4, if_neg (by omega)]
        refine pk_eq (j + zx_sp lx i) (pg 0) (fun c3 => go true (by simp [c3])) (fun c3 => ?_)
        refine zs_holdsBlank hl hp pCJ (by omega) (zb_br (fun r => go false (by simp [c3, r])) (fun r => go true (by simp [r])))
